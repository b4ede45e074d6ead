section
-- ===== PART A: goes FIRST, ahead of the names: the tables' words, and 'selects' of the private methods out of them =====
/-- a private method of a class that the tables say can be made, by its rows of tables_1 -/
def lw_okq (q : MethodName × Nat) : Prop := (q.1.cls ≠ "java/lang/invoke/MethodHandle" ∧ q.1.cls ≠ "java/lang/invoke/VarHandle") ∧ Cond.instantiable q.1.cls q.2 ∈ tables_1 ∧ Cond.privateMethod q.1 ∈ tables_1 ∧ Cond.instanceMethod q.1 ∈ tables_1
theorem lw_p0 : lw_okq (⟨"PatternedDecimals$Decimal", "set", "(JI)V"⟩, 3) := ⟨⟨by decide +kernel, by decide +kernel⟩, List.mem_of_getElem? (i := 62) (by decide +kernel), List.mem_of_getElem? (i := 68) (by decide +kernel), List.mem_of_getElem? (i := 69) (by decide +kernel)⟩
theorem lw_p1 : lw_okq (⟨"PatternedDecimals$NumberReader", "startBody", "(II)V"⟩, 11) := ⟨⟨by decide +kernel, by decide +kernel⟩, List.mem_of_getElem? (i := 101) (by decide +kernel), List.mem_of_getElem? (i := 107) (by decide +kernel), List.mem_of_getElem? (i := 108) (by decide +kernel)⟩
theorem lw_p2 : lw_okq (⟨"PatternedDecimals$Shape", "clear", "()V"⟩, 7) := ⟨⟨by decide +kernel, by decide +kernel⟩, List.mem_of_getElem? (i := 170) (by decide +kernel), List.mem_of_getElem? (i := 176) (by decide +kernel), List.mem_of_getElem? (i := 177) (by decide +kernel)⟩
theorem lw_p3 : lw_okq (⟨"PatternedDecimals$Row", "add", "(C)Z"⟩, 2) := ⟨⟨by decide +kernel, by decide +kernel⟩, List.mem_of_getElem? (i := 25) (by decide +kernel), List.mem_of_getElem? (i := 313) (by decide +kernel), List.mem_of_getElem? (i := 314) (by decide +kernel)⟩
theorem lw_p4 : lw_okq (⟨"PatternedDecimals$Row", "clear", "()V"⟩, 2) := ⟨⟨by decide +kernel, by decide +kernel⟩, List.mem_of_getElem? (i := 25) (by decide +kernel), List.mem_of_getElem? (i := 321) (by decide +kernel), List.mem_of_getElem? (i := 322) (by decide +kernel)⟩
theorem lw_p5 : lw_okq (⟨"PatternedDecimals$Row", "size", "()I"⟩, 2) := ⟨⟨by decide +kernel, by decide +kernel⟩, List.mem_of_getElem? (i := 25) (by decide +kernel), List.mem_of_getElem? (i := 329) (by decide +kernel), List.mem_of_getElem? (i := 330) (by decide +kernel)⟩
theorem lw_p6 : lw_okq (⟨"PatternedDecimals$PatternReader", "read", "(LPatternedDecimals$Row;LPatternedDecimals$Pattern;)I"⟩, 1) := ⟨⟨by decide +kernel, by decide +kernel⟩, List.mem_of_getElem? (i := 39) (by decide +kernel), List.mem_of_getElem? (i := 337) (by decide +kernel), List.mem_of_getElem? (i := 338) (by decide +kernel)⟩
theorem lw_p7 : lw_okq (⟨"PatternedDecimals$PatternReader", "readPart", "(LPatternedDecimals$Row;LPatternedDecimals$Part;)Z"⟩, 1) := ⟨⟨by decide +kernel, by decide +kernel⟩, List.mem_of_getElem? (i := 39) (by decide +kernel), List.mem_of_getElem? (i := 341) (by decide +kernel), List.mem_of_getElem? (i := 342) (by decide +kernel)⟩
theorem lw_p8 : lw_okq (⟨"PatternedDecimals$PatternReader", "readAffix", "(LPatternedDecimals$Row;LPatternedDecimals$Affix;)Z"⟩, 1) := ⟨⟨by decide +kernel, by decide +kernel⟩, List.mem_of_getElem? (i := 39) (by decide +kernel), List.mem_of_getElem? (i := 345) (by decide +kernel), List.mem_of_getElem? (i := 346) (by decide +kernel)⟩
theorem lw_p9 : lw_okq (⟨"PatternedDecimals$Affix", "clear", "()V"⟩, 2) := ⟨⟨by decide +kernel, by decide +kernel⟩, List.mem_of_getElem? (i := 157) (by decide +kernel), List.mem_of_getElem? (i := 349) (by decide +kernel), List.mem_of_getElem? (i := 350) (by decide +kernel)⟩
theorem lw_p10 : lw_okq (⟨"PatternedDecimals$Row", "at", "(I)I"⟩, 2) := ⟨⟨by decide +kernel, by decide +kernel⟩, List.mem_of_getElem? (i := 25) (by decide +kernel), List.mem_of_getElem? (i := 354) (by decide +kernel), List.mem_of_getElem? (i := 355) (by decide +kernel)⟩
theorem lw_p11 : lw_okq (⟨"PatternedDecimals$Affix", "add", "(I)V"⟩, 2) := ⟨⟨by decide +kernel, by decide +kernel⟩, List.mem_of_getElem? (i := 157) (by decide +kernel), List.mem_of_getElem? (i := 358) (by decide +kernel), List.mem_of_getElem? (i := 359) (by decide +kernel)⟩
theorem lw_p12 : lw_okq (⟨"PatternedDecimals$PatternReader", "readNumber", "(LPatternedDecimals$Row;LPatternedDecimals$Shape;)Z"⟩, 1) := ⟨⟨by decide +kernel, by decide +kernel⟩, List.mem_of_getElem? (i := 39) (by decide +kernel), List.mem_of_getElem? (i := 365) (by decide +kernel), List.mem_of_getElem? (i := 366) (by decide +kernel)⟩
theorem lw_p13 : lw_okq (⟨"PatternedDecimals$PatternReader", "readInteger", "(LPatternedDecimals$Row;LPatternedDecimals$Shape;)Z"⟩, 1) := ⟨⟨by decide +kernel, by decide +kernel⟩, List.mem_of_getElem? (i := 39) (by decide +kernel), List.mem_of_getElem? (i := 370) (by decide +kernel), List.mem_of_getElem? (i := 371) (by decide +kernel)⟩
theorem lw_p14 : lw_okq (⟨"PatternedDecimals$Shape", "startGroup", "()V"⟩, 7) := ⟨⟨by decide +kernel, by decide +kernel⟩, List.mem_of_getElem? (i := 170) (by decide +kernel), List.mem_of_getElem? (i := 374) (by decide +kernel), List.mem_of_getElem? (i := 375) (by decide +kernel)⟩
theorem lw_p15 : lw_okq (⟨"PatternedDecimals$Shape", "takeInteger", "(I)Z"⟩, 7) := ⟨⟨by decide +kernel, by decide +kernel⟩, List.mem_of_getElem? (i := 170) (by decide +kernel), List.mem_of_getElem? (i := 378) (by decide +kernel), List.mem_of_getElem? (i := 379) (by decide +kernel)⟩
def lw_privs_1 : List (MethodName × Nat) := [(⟨"PatternedDecimals$Decimal", "set", "(JI)V"⟩, 3), (⟨"PatternedDecimals$NumberReader", "startBody", "(II)V"⟩, 11), (⟨"PatternedDecimals$Shape", "clear", "()V"⟩, 7), (⟨"PatternedDecimals$Row", "add", "(C)Z"⟩, 2), (⟨"PatternedDecimals$Row", "clear", "()V"⟩, 2), (⟨"PatternedDecimals$Row", "size", "()I"⟩, 2), (⟨"PatternedDecimals$PatternReader", "read", "(LPatternedDecimals$Row;LPatternedDecimals$Pattern;)I"⟩, 1), (⟨"PatternedDecimals$PatternReader", "readPart", "(LPatternedDecimals$Row;LPatternedDecimals$Part;)Z"⟩, 1), (⟨"PatternedDecimals$PatternReader", "readAffix", "(LPatternedDecimals$Row;LPatternedDecimals$Affix;)Z"⟩, 1), (⟨"PatternedDecimals$Affix", "clear", "()V"⟩, 2), (⟨"PatternedDecimals$Row", "at", "(I)I"⟩, 2), (⟨"PatternedDecimals$Affix", "add", "(I)V"⟩, 2), (⟨"PatternedDecimals$PatternReader", "readNumber", "(LPatternedDecimals$Row;LPatternedDecimals$Shape;)Z"⟩, 1), (⟨"PatternedDecimals$PatternReader", "readInteger", "(LPatternedDecimals$Row;LPatternedDecimals$Shape;)Z"⟩, 1), (⟨"PatternedDecimals$Shape", "startGroup", "()V"⟩, 7), (⟨"PatternedDecimals$Shape", "takeInteger", "(I)Z"⟩, 7)]
theorem lw_r1 : ∀ q ∈ lw_privs_1, lw_okq q := List.forall_mem_cons.mpr ⟨lw_p0, List.forall_mem_cons.mpr ⟨lw_p1, List.forall_mem_cons.mpr ⟨lw_p2, List.forall_mem_cons.mpr ⟨lw_p3, List.forall_mem_cons.mpr ⟨lw_p4, List.forall_mem_cons.mpr ⟨lw_p5, List.forall_mem_cons.mpr ⟨lw_p6, List.forall_mem_cons.mpr ⟨lw_p7, List.forall_mem_cons.mpr ⟨lw_p8, List.forall_mem_cons.mpr ⟨lw_p9, List.forall_mem_cons.mpr ⟨lw_p10, List.forall_mem_cons.mpr ⟨lw_p11, List.forall_mem_cons.mpr ⟨lw_p12, List.forall_mem_cons.mpr ⟨lw_p13, List.forall_mem_cons.mpr ⟨lw_p14, List.forall_mem_cons.mpr ⟨lw_p15, fun _ h => absurd h List.not_mem_nil⟩⟩⟩⟩⟩⟩⟩⟩⟩⟩⟩⟩⟩⟩⟩⟩
theorem lw_p16 : lw_okq (⟨"PatternedDecimals$PatternReader", "readFraction", "(LPatternedDecimals$Row;LPatternedDecimals$Shape;)V"⟩, 1) := ⟨⟨by decide +kernel, by decide +kernel⟩, List.mem_of_getElem? (i := 39) (by decide +kernel), List.mem_of_getElem? (i := 382) (by decide +kernel), List.mem_of_getElem? (i := 383) (by decide +kernel)⟩
theorem lw_p17 : lw_okq (⟨"PatternedDecimals$Shape", "takeFraction", "(I)Z"⟩, 7) := ⟨⟨by decide +kernel, by decide +kernel⟩, List.mem_of_getElem? (i := 170) (by decide +kernel), List.mem_of_getElem? (i := 386) (by decide +kernel), List.mem_of_getElem? (i := 387) (by decide +kernel)⟩
theorem lw_p18 : lw_okq (⟨"PatternedDecimals$Shape", "allowsExponent", "()Z"⟩, 7) := ⟨⟨by decide +kernel, by decide +kernel⟩, List.mem_of_getElem? (i := 170) (by decide +kernel), List.mem_of_getElem? (i := 390) (by decide +kernel), List.mem_of_getElem? (i := 391) (by decide +kernel)⟩
theorem lw_p19 : lw_okq (⟨"PatternedDecimals$PatternReader", "readExponent", "(LPatternedDecimals$Row;LPatternedDecimals$Shape;)Z"⟩, 1) := ⟨⟨by decide +kernel, by decide +kernel⟩, List.mem_of_getElem? (i := 39) (by decide +kernel), List.mem_of_getElem? (i := 394) (by decide +kernel), List.mem_of_getElem? (i := 395) (by decide +kernel)⟩
theorem lw_p20 : lw_okq (⟨"PatternedDecimals$Pattern", "complete", "()V"⟩, 4) := ⟨⟨by decide +kernel, by decide +kernel⟩, List.mem_of_getElem? (i := 145) (by decide +kernel), List.mem_of_getElem? (i := 398) (by decide +kernel), List.mem_of_getElem? (i := 399) (by decide +kernel)⟩
theorem lw_p21 : lw_okq (⟨"PatternedDecimals$Affix", "hasPercent", "()Z"⟩, 2) := ⟨⟨by decide +kernel, by decide +kernel⟩, List.mem_of_getElem? (i := 157) (by decide +kernel), List.mem_of_getElem? (i := 402) (by decide +kernel), List.mem_of_getElem? (i := 403) (by decide +kernel)⟩
theorem lw_p22 : lw_okq (⟨"PatternedDecimals$Affix", "addAll", "(LPatternedDecimals$Affix;)V"⟩, 2) := ⟨⟨by decide +kernel, by decide +kernel⟩, List.mem_of_getElem? (i := 157) (by decide +kernel), List.mem_of_getElem? (i := 408) (by decide +kernel), List.mem_of_getElem? (i := 409) (by decide +kernel)⟩
theorem lw_p23 : lw_okq (⟨"PatternedDecimals$Affix", "at", "(I)I"⟩, 2) := ⟨⟨by decide +kernel, by decide +kernel⟩, List.mem_of_getElem? (i := 157) (by decide +kernel), List.mem_of_getElem? (i := 412) (by decide +kernel), List.mem_of_getElem? (i := 413) (by decide +kernel)⟩
theorem lw_p24 : lw_okq (⟨"PatternedDecimals$NumberWriter", "prepare", "(LPatternedDecimals$Shape;JII)Z"⟩, 4) := ⟨⟨by decide +kernel, by decide +kernel⟩, List.mem_of_getElem? (i := 56) (by decide +kernel), List.mem_of_getElem? (i := 432) (by decide +kernel), List.mem_of_getElem? (i := 433) (by decide +kernel)⟩
theorem lw_p25 : lw_okq (⟨"PatternedDecimals$Decimal", "roundTo", "(II)Z"⟩, 3) := ⟨⟨by decide +kernel, by decide +kernel⟩, List.mem_of_getElem? (i := 62) (by decide +kernel), List.mem_of_getElem? (i := 437) (by decide +kernel), List.mem_of_getElem? (i := 438) (by decide +kernel)⟩
theorem lw_p26 : lw_okq (⟨"PatternedDecimals$Decimal", "goesAway", "(IJJJ)Z"⟩, 3) := ⟨⟨by decide +kernel, by decide +kernel⟩, List.mem_of_getElem? (i := 62) (by decide +kernel), List.mem_of_getElem? (i := 452) (by decide +kernel), List.mem_of_getElem? (i := 453) (by decide +kernel)⟩
theorem lw_p27 : lw_okq (⟨"PatternedDecimals$NumberWriter", "takeExponent", "(I)V"⟩, 4) := ⟨⟨by decide +kernel, by decide +kernel⟩, List.mem_of_getElem? (i := 56) (by decide +kernel), List.mem_of_getElem? (i := 460) (by decide +kernel), List.mem_of_getElem? (i := 461) (by decide +kernel)⟩
theorem lw_p28 : lw_okq (⟨"PatternedDecimals$NumberWriter", "carryExponent", "(I)V"⟩, 4) := ⟨⟨by decide +kernel, by decide +kernel⟩, List.mem_of_getElem? (i := 56) (by decide +kernel), List.mem_of_getElem? (i := 468) (by decide +kernel), List.mem_of_getElem? (i := 469) (by decide +kernel)⟩
theorem lw_p29 : lw_okq (⟨"PatternedDecimals$Decimal", "whole", "()J"⟩, 3) := ⟨⟨by decide +kernel, by decide +kernel⟩, List.mem_of_getElem? (i := 62) (by decide +kernel), List.mem_of_getElem? (i := 472) (by decide +kernel), List.mem_of_getElem? (i := 473) (by decide +kernel)⟩
theorem lw_p30 : lw_okq (⟨"PatternedDecimals$NumberWriter", "write", "(LPatternedDecimals$Pattern;LPatternedDecimals$Row;)V"⟩, 4) := ⟨⟨by decide +kernel, by decide +kernel⟩, List.mem_of_getElem? (i := 56) (by decide +kernel), List.mem_of_getElem? (i := 476) (by decide +kernel), List.mem_of_getElem? (i := 477) (by decide +kernel)⟩
theorem lw_p31 : lw_okq (⟨"PatternedDecimals$Decimal", "isBelowZero", "()Z"⟩, 3) := ⟨⟨by decide +kernel, by decide +kernel⟩, List.mem_of_getElem? (i := 62) (by decide +kernel), List.mem_of_getElem? (i := 480) (by decide +kernel), List.mem_of_getElem? (i := 481) (by decide +kernel)⟩
def lw_privs_2 : List (MethodName × Nat) := [(⟨"PatternedDecimals$PatternReader", "readFraction", "(LPatternedDecimals$Row;LPatternedDecimals$Shape;)V"⟩, 1), (⟨"PatternedDecimals$Shape", "takeFraction", "(I)Z"⟩, 7), (⟨"PatternedDecimals$Shape", "allowsExponent", "()Z"⟩, 7), (⟨"PatternedDecimals$PatternReader", "readExponent", "(LPatternedDecimals$Row;LPatternedDecimals$Shape;)Z"⟩, 1), (⟨"PatternedDecimals$Pattern", "complete", "()V"⟩, 4), (⟨"PatternedDecimals$Affix", "hasPercent", "()Z"⟩, 2), (⟨"PatternedDecimals$Affix", "addAll", "(LPatternedDecimals$Affix;)V"⟩, 2), (⟨"PatternedDecimals$Affix", "at", "(I)I"⟩, 2), (⟨"PatternedDecimals$NumberWriter", "prepare", "(LPatternedDecimals$Shape;JII)Z"⟩, 4), (⟨"PatternedDecimals$Decimal", "roundTo", "(II)Z"⟩, 3), (⟨"PatternedDecimals$Decimal", "goesAway", "(IJJJ)Z"⟩, 3), (⟨"PatternedDecimals$NumberWriter", "takeExponent", "(I)V"⟩, 4), (⟨"PatternedDecimals$NumberWriter", "carryExponent", "(I)V"⟩, 4), (⟨"PatternedDecimals$Decimal", "whole", "()J"⟩, 3), (⟨"PatternedDecimals$NumberWriter", "write", "(LPatternedDecimals$Pattern;LPatternedDecimals$Row;)V"⟩, 4), (⟨"PatternedDecimals$Decimal", "isBelowZero", "()Z"⟩, 3)]
theorem lw_r2 : ∀ q ∈ lw_privs_2, lw_okq q := List.forall_mem_cons.mpr ⟨lw_p16, List.forall_mem_cons.mpr ⟨lw_p17, List.forall_mem_cons.mpr ⟨lw_p18, List.forall_mem_cons.mpr ⟨lw_p19, List.forall_mem_cons.mpr ⟨lw_p20, List.forall_mem_cons.mpr ⟨lw_p21, List.forall_mem_cons.mpr ⟨lw_p22, List.forall_mem_cons.mpr ⟨lw_p23, List.forall_mem_cons.mpr ⟨lw_p24, List.forall_mem_cons.mpr ⟨lw_p25, List.forall_mem_cons.mpr ⟨lw_p26, List.forall_mem_cons.mpr ⟨lw_p27, List.forall_mem_cons.mpr ⟨lw_p28, List.forall_mem_cons.mpr ⟨lw_p29, List.forall_mem_cons.mpr ⟨lw_p30, List.forall_mem_cons.mpr ⟨lw_p31, fun _ h => absurd h List.not_mem_nil⟩⟩⟩⟩⟩⟩⟩⟩⟩⟩⟩⟩⟩⟩⟩⟩
theorem lw_p32 : lw_okq (⟨"PatternedDecimals$Affix", "show", "(LPatternedDecimals$Row;)V"⟩, 2) := ⟨⟨by decide +kernel, by decide +kernel⟩, List.mem_of_getElem? (i := 157) (by decide +kernel), List.mem_of_getElem? (i := 485) (by decide +kernel), List.mem_of_getElem? (i := 486) (by decide +kernel)⟩
theorem lw_p33 : lw_okq (⟨"PatternedDecimals$Affix", "shownAt", "(I)I"⟩, 2) := ⟨⟨by decide +kernel, by decide +kernel⟩, List.mem_of_getElem? (i := 157) (by decide +kernel), List.mem_of_getElem? (i := 489) (by decide +kernel), List.mem_of_getElem? (i := 490) (by decide +kernel)⟩
theorem lw_p34 : lw_okq (⟨"PatternedDecimals$NumberWriter", "writeInteger", "(LPatternedDecimals$Shape;LPatternedDecimals$Row;)V"⟩, 4) := ⟨⟨by decide +kernel, by decide +kernel⟩, List.mem_of_getElem? (i := 56) (by decide +kernel), List.mem_of_getElem? (i := 494) (by decide +kernel), List.mem_of_getElem? (i := 495) (by decide +kernel)⟩
theorem lw_p35 : lw_okq (⟨"PatternedDecimals$NumberWriter", "shownFraction", "(LPatternedDecimals$Shape;)I"⟩, 4) := ⟨⟨by decide +kernel, by decide +kernel⟩, List.mem_of_getElem? (i := 56) (by decide +kernel), List.mem_of_getElem? (i := 500) (by decide +kernel), List.mem_of_getElem? (i := 501) (by decide +kernel)⟩
theorem lw_p36 : lw_okq (⟨"PatternedDecimals$Decimal", "fractionCount", "()I"⟩, 3) := ⟨⟨by decide +kernel, by decide +kernel⟩, List.mem_of_getElem? (i := 62) (by decide +kernel), List.mem_of_getElem? (i := 504) (by decide +kernel), List.mem_of_getElem? (i := 505) (by decide +kernel)⟩
theorem lw_p37 : lw_okq (⟨"PatternedDecimals$NumberWriter", "writeFraction", "(LPatternedDecimals$Shape;LPatternedDecimals$Row;)V"⟩, 4) := ⟨⟨by decide +kernel, by decide +kernel⟩, List.mem_of_getElem? (i := 56) (by decide +kernel), List.mem_of_getElem? (i := 514) (by decide +kernel), List.mem_of_getElem? (i := 515) (by decide +kernel)⟩
theorem lw_p38 : lw_okq (⟨"PatternedDecimals$Decimal", "fractionDigit", "(I)I"⟩, 3) := ⟨⟨by decide +kernel, by decide +kernel⟩, List.mem_of_getElem? (i := 62) (by decide +kernel), List.mem_of_getElem? (i := 518) (by decide +kernel), List.mem_of_getElem? (i := 519) (by decide +kernel)⟩
theorem lw_p39 : lw_okq (⟨"PatternedDecimals$NumberWriter", "writeExponent", "(LPatternedDecimals$Shape;LPatternedDecimals$Row;)V"⟩, 4) := ⟨⟨by decide +kernel, by decide +kernel⟩, List.mem_of_getElem? (i := 56) (by decide +kernel), List.mem_of_getElem? (i := 522) (by decide +kernel), List.mem_of_getElem? (i := 523) (by decide +kernel)⟩
theorem lw_p40 : lw_okq (⟨"PatternedDecimals$PatternWriter", "write", "(LPatternedDecimals$Pattern;LPatternedDecimals$Row;)V"⟩, 0) := ⟨⟨by decide +kernel, by decide +kernel⟩, List.mem_of_getElem? (i := 49) (by decide +kernel), List.mem_of_getElem? (i := 533) (by decide +kernel), List.mem_of_getElem? (i := 534) (by decide +kernel)⟩
theorem lw_p41 : lw_okq (⟨"PatternedDecimals$PatternWriter", "writeAffix", "(LPatternedDecimals$Affix;LPatternedDecimals$Row;)V"⟩, 0) := ⟨⟨by decide +kernel, by decide +kernel⟩, List.mem_of_getElem? (i := 49) (by decide +kernel), List.mem_of_getElem? (i := 538) (by decide +kernel), List.mem_of_getElem? (i := 539) (by decide +kernel)⟩
theorem lw_p42 : lw_okq (⟨"PatternedDecimals$Affix", "size", "()I"⟩, 2) := ⟨⟨by decide +kernel, by decide +kernel⟩, List.mem_of_getElem? (i := 157) (by decide +kernel), List.mem_of_getElem? (i := 542) (by decide +kernel), List.mem_of_getElem? (i := 543) (by decide +kernel)⟩
theorem lw_p43 : lw_okq (⟨"PatternedDecimals$PatternWriter", "writeShape", "(LPatternedDecimals$Shape;LPatternedDecimals$Row;)V"⟩, 0) := ⟨⟨by decide +kernel, by decide +kernel⟩, List.mem_of_getElem? (i := 49) (by decide +kernel), List.mem_of_getElem? (i := 553) (by decide +kernel), List.mem_of_getElem? (i := 554) (by decide +kernel)⟩
theorem lw_p44 : lw_okq (⟨"PatternedDecimals$PatternWriter", "writeInteger", "(LPatternedDecimals$Shape;LPatternedDecimals$Row;)V"⟩, 0) := ⟨⟨by decide +kernel, by decide +kernel⟩, List.mem_of_getElem? (i := 49) (by decide +kernel), List.mem_of_getElem? (i := 557) (by decide +kernel), List.mem_of_getElem? (i := 558) (by decide +kernel)⟩
theorem lw_p45 : lw_okq (⟨"PatternedDecimals$Pattern", "secondIsUsual", "()Z"⟩, 4) := ⟨⟨by decide +kernel, by decide +kernel⟩, List.mem_of_getElem? (i := 145) (by decide +kernel), List.mem_of_getElem? (i := 565) (by decide +kernel), List.mem_of_getElem? (i := 566) (by decide +kernel)⟩
theorem lw_p46 : lw_okq (⟨"PatternedDecimals$Affix", "endsAs", "(LPatternedDecimals$Affix;I)Z"⟩, 2) := ⟨⟨by decide +kernel, by decide +kernel⟩, List.mem_of_getElem? (i := 157) (by decide +kernel), List.mem_of_getElem? (i := 570) (by decide +kernel), List.mem_of_getElem? (i := 571) (by decide +kernel)⟩
theorem lw_p47 : lw_okq (⟨"PatternedDecimals$NumberWriter", "forgetFields", "()V"⟩, 4) := ⟨⟨by decide +kernel, by decide +kernel⟩, List.mem_of_getElem? (i := 56) (by decide +kernel), List.mem_of_getElem? (i := 574) (by decide +kernel), List.mem_of_getElem? (i := 575) (by decide +kernel)⟩
def lw_privs_3 : List (MethodName × Nat) := [(⟨"PatternedDecimals$Affix", "show", "(LPatternedDecimals$Row;)V"⟩, 2), (⟨"PatternedDecimals$Affix", "shownAt", "(I)I"⟩, 2), (⟨"PatternedDecimals$NumberWriter", "writeInteger", "(LPatternedDecimals$Shape;LPatternedDecimals$Row;)V"⟩, 4), (⟨"PatternedDecimals$NumberWriter", "shownFraction", "(LPatternedDecimals$Shape;)I"⟩, 4), (⟨"PatternedDecimals$Decimal", "fractionCount", "()I"⟩, 3), (⟨"PatternedDecimals$NumberWriter", "writeFraction", "(LPatternedDecimals$Shape;LPatternedDecimals$Row;)V"⟩, 4), (⟨"PatternedDecimals$Decimal", "fractionDigit", "(I)I"⟩, 3), (⟨"PatternedDecimals$NumberWriter", "writeExponent", "(LPatternedDecimals$Shape;LPatternedDecimals$Row;)V"⟩, 4), (⟨"PatternedDecimals$PatternWriter", "write", "(LPatternedDecimals$Pattern;LPatternedDecimals$Row;)V"⟩, 0), (⟨"PatternedDecimals$PatternWriter", "writeAffix", "(LPatternedDecimals$Affix;LPatternedDecimals$Row;)V"⟩, 0), (⟨"PatternedDecimals$Affix", "size", "()I"⟩, 2), (⟨"PatternedDecimals$PatternWriter", "writeShape", "(LPatternedDecimals$Shape;LPatternedDecimals$Row;)V"⟩, 0), (⟨"PatternedDecimals$PatternWriter", "writeInteger", "(LPatternedDecimals$Shape;LPatternedDecimals$Row;)V"⟩, 0), (⟨"PatternedDecimals$Pattern", "secondIsUsual", "()Z"⟩, 4), (⟨"PatternedDecimals$Affix", "endsAs", "(LPatternedDecimals$Affix;I)Z"⟩, 2), (⟨"PatternedDecimals$NumberWriter", "forgetFields", "()V"⟩, 4)]
theorem lw_r3 : ∀ q ∈ lw_privs_3, lw_okq q := List.forall_mem_cons.mpr ⟨lw_p32, List.forall_mem_cons.mpr ⟨lw_p33, List.forall_mem_cons.mpr ⟨lw_p34, List.forall_mem_cons.mpr ⟨lw_p35, List.forall_mem_cons.mpr ⟨lw_p36, List.forall_mem_cons.mpr ⟨lw_p37, List.forall_mem_cons.mpr ⟨lw_p38, List.forall_mem_cons.mpr ⟨lw_p39, List.forall_mem_cons.mpr ⟨lw_p40, List.forall_mem_cons.mpr ⟨lw_p41, List.forall_mem_cons.mpr ⟨lw_p42, List.forall_mem_cons.mpr ⟨lw_p43, List.forall_mem_cons.mpr ⟨lw_p44, List.forall_mem_cons.mpr ⟨lw_p45, List.forall_mem_cons.mpr ⟨lw_p46, List.forall_mem_cons.mpr ⟨lw_p47, fun _ h => absurd h List.not_mem_nil⟩⟩⟩⟩⟩⟩⟩⟩⟩⟩⟩⟩⟩⟩⟩⟩
theorem lw_p48 : lw_okq (⟨"PatternedDecimals$NumberWriter", "fieldEdge", "(IZ)I"⟩, 4) := ⟨⟨by decide +kernel, by decide +kernel⟩, List.mem_of_getElem? (i := 56) (by decide +kernel), List.mem_of_getElem? (i := 587) (by decide +kernel), List.mem_of_getElem? (i := 588) (by decide +kernel)⟩
theorem lw_p49 : lw_okq (⟨"PatternedDecimals$Row", "become", "(LPatternedDecimals$Row;)V"⟩, 2) := ⟨⟨by decide +kernel, by decide +kernel⟩, List.mem_of_getElem? (i := 25) (by decide +kernel), List.mem_of_getElem? (i := 595) (by decide +kernel), List.mem_of_getElem? (i := 596) (by decide +kernel)⟩
theorem lw_p50 : lw_okq (⟨"PatternedDecimals$NumberReader", "read", "(LPatternedDecimals$Row;LPatternedDecimals$Pattern;)Z"⟩, 11) := ⟨⟨by decide +kernel, by decide +kernel⟩, List.mem_of_getElem? (i := 101) (by decide +kernel), List.mem_of_getElem? (i := 606) (by decide +kernel), List.mem_of_getElem? (i := 607) (by decide +kernel)⟩
theorem lw_p51 : lw_okq (⟨"PatternedDecimals$NumberReader", "startBetween", "(LPatternedDecimals$Row;LPatternedDecimals$Part;)Z"⟩, 11) := ⟨⟨by decide +kernel, by decide +kernel⟩, List.mem_of_getElem? (i := 101) (by decide +kernel), List.mem_of_getElem? (i := 610) (by decide +kernel), List.mem_of_getElem? (i := 611) (by decide +kernel)⟩
theorem lw_p52 : lw_okq (⟨"PatternedDecimals$Affix", "standsIn", "(LPatternedDecimals$Row;I)Z"⟩, 2) := ⟨⟨by decide +kernel, by decide +kernel⟩, List.mem_of_getElem? (i := 157) (by decide +kernel), List.mem_of_getElem? (i := 616) (by decide +kernel), List.mem_of_getElem? (i := 617) (by decide +kernel)⟩
theorem lw_p53 : lw_okq (⟨"PatternedDecimals$NumberReader", "readBody", "(LPatternedDecimals$Row;LPatternedDecimals$Shape;)Z"⟩, 11) := ⟨⟨by decide +kernel, by decide +kernel⟩, List.mem_of_getElem? (i := 101) (by decide +kernel), List.mem_of_getElem? (i := 621) (by decide +kernel), List.mem_of_getElem? (i := 622) (by decide +kernel)⟩
theorem lw_p54 : lw_okq (⟨"PatternedDecimals$NumberReader", "readInteger", "(LPatternedDecimals$Row;Z)V"⟩, 11) := ⟨⟨by decide +kernel, by decide +kernel⟩, List.mem_of_getElem? (i := 101) (by decide +kernel), List.mem_of_getElem? (i := 625) (by decide +kernel), List.mem_of_getElem? (i := 626) (by decide +kernel)⟩
theorem lw_p55 : lw_okq (⟨"PatternedDecimals$NumberReader", "bodyAt", "(LPatternedDecimals$Row;I)I"⟩, 11) := ⟨⟨by decide +kernel, by decide +kernel⟩, List.mem_of_getElem? (i := 101) (by decide +kernel), List.mem_of_getElem? (i := 629) (by decide +kernel), List.mem_of_getElem? (i := 630) (by decide +kernel)⟩
theorem lw_p56 : lw_okq (⟨"PatternedDecimals$NumberReader", "takeDigit", "(I)V"⟩, 11) := ⟨⟨by decide +kernel, by decide +kernel⟩, List.mem_of_getElem? (i := 101) (by decide +kernel), List.mem_of_getElem? (i := 637) (by decide +kernel), List.mem_of_getElem? (i := 638) (by decide +kernel)⟩
theorem lw_p57 : lw_okq (⟨"PatternedDecimals$NumberReader", "isBetweenDigits", "(LPatternedDecimals$Row;)Z"⟩, 11) := ⟨⟨by decide +kernel, by decide +kernel⟩, List.mem_of_getElem? (i := 101) (by decide +kernel), List.mem_of_getElem? (i := 642) (by decide +kernel), List.mem_of_getElem? (i := 643) (by decide +kernel)⟩
theorem lw_p58 : lw_okq (⟨"PatternedDecimals$NumberReader", "readFraction", "(LPatternedDecimals$Row;)V"⟩, 11) := ⟨⟨by decide +kernel, by decide +kernel⟩, List.mem_of_getElem? (i := 101) (by decide +kernel), List.mem_of_getElem? (i := 646) (by decide +kernel), List.mem_of_getElem? (i := 647) (by decide +kernel)⟩
theorem lw_p59 : lw_okq (⟨"PatternedDecimals$NumberReader", "readExponent", "(LPatternedDecimals$Row;)Z"⟩, 11) := ⟨⟨by decide +kernel, by decide +kernel⟩, List.mem_of_getElem? (i := 101) (by decide +kernel), List.mem_of_getElem? (i := 650) (by decide +kernel), List.mem_of_getElem? (i := 651) (by decide +kernel)⟩
theorem lw_p60 : lw_okq (⟨"PatternedDecimals$NumberReader", "signedDigits", "()J"⟩, 11) := ⟨⟨by decide +kernel, by decide +kernel⟩, List.mem_of_getElem? (i := 101) (by decide +kernel), List.mem_of_getElem? (i := 654) (by decide +kernel), List.mem_of_getElem? (i := 655) (by decide +kernel)⟩
theorem lw_p61 : lw_okq (⟨"PatternedDecimals$NumberReader", "places", "()I"⟩, 11) := ⟨⟨by decide +kernel, by decide +kernel⟩, List.mem_of_getElem? (i := 101) (by decide +kernel), List.mem_of_getElem? (i := 658) (by decide +kernel), List.mem_of_getElem? (i := 659) (by decide +kernel)⟩
theorem lw_p62 : lw_okq (⟨"PatternedDecimalsModel", "go", "(Z)V"⟩, 23) := ⟨⟨by decide +kernel, by decide +kernel⟩, List.mem_of_getElem? (i := 670) (by decide +kernel), List.mem_of_getElem? (i := 770) (by decide +kernel), List.mem_of_getElem? (i := 771) (by decide +kernel)⟩
theorem lw_p63 : lw_okq (⟨"PatternedDecimalsModel", "part", "(I)V"⟩, 23) := ⟨⟨by decide +kernel, by decide +kernel⟩, List.mem_of_getElem? (i := 670) (by decide +kernel), List.mem_of_getElem? (i := 774) (by decide +kernel), List.mem_of_getElem? (i := 775) (by decide +kernel)⟩
def lw_privs_4 : List (MethodName × Nat) := [(⟨"PatternedDecimals$NumberWriter", "fieldEdge", "(IZ)I"⟩, 4), (⟨"PatternedDecimals$Row", "become", "(LPatternedDecimals$Row;)V"⟩, 2), (⟨"PatternedDecimals$NumberReader", "read", "(LPatternedDecimals$Row;LPatternedDecimals$Pattern;)Z"⟩, 11), (⟨"PatternedDecimals$NumberReader", "startBetween", "(LPatternedDecimals$Row;LPatternedDecimals$Part;)Z"⟩, 11), (⟨"PatternedDecimals$Affix", "standsIn", "(LPatternedDecimals$Row;I)Z"⟩, 2), (⟨"PatternedDecimals$NumberReader", "readBody", "(LPatternedDecimals$Row;LPatternedDecimals$Shape;)Z"⟩, 11), (⟨"PatternedDecimals$NumberReader", "readInteger", "(LPatternedDecimals$Row;Z)V"⟩, 11), (⟨"PatternedDecimals$NumberReader", "bodyAt", "(LPatternedDecimals$Row;I)I"⟩, 11), (⟨"PatternedDecimals$NumberReader", "takeDigit", "(I)V"⟩, 11), (⟨"PatternedDecimals$NumberReader", "isBetweenDigits", "(LPatternedDecimals$Row;)Z"⟩, 11), (⟨"PatternedDecimals$NumberReader", "readFraction", "(LPatternedDecimals$Row;)V"⟩, 11), (⟨"PatternedDecimals$NumberReader", "readExponent", "(LPatternedDecimals$Row;)Z"⟩, 11), (⟨"PatternedDecimals$NumberReader", "signedDigits", "()J"⟩, 11), (⟨"PatternedDecimals$NumberReader", "places", "()I"⟩, 11), (⟨"PatternedDecimalsModel", "go", "(Z)V"⟩, 23), (⟨"PatternedDecimalsModel", "part", "(I)V"⟩, 23)]
theorem lw_r4 : ∀ q ∈ lw_privs_4, lw_okq q := List.forall_mem_cons.mpr ⟨lw_p48, List.forall_mem_cons.mpr ⟨lw_p49, List.forall_mem_cons.mpr ⟨lw_p50, List.forall_mem_cons.mpr ⟨lw_p51, List.forall_mem_cons.mpr ⟨lw_p52, List.forall_mem_cons.mpr ⟨lw_p53, List.forall_mem_cons.mpr ⟨lw_p54, List.forall_mem_cons.mpr ⟨lw_p55, List.forall_mem_cons.mpr ⟨lw_p56, List.forall_mem_cons.mpr ⟨lw_p57, List.forall_mem_cons.mpr ⟨lw_p58, List.forall_mem_cons.mpr ⟨lw_p59, List.forall_mem_cons.mpr ⟨lw_p60, List.forall_mem_cons.mpr ⟨lw_p61, List.forall_mem_cons.mpr ⟨lw_p62, List.forall_mem_cons.mpr ⟨lw_p63, fun _ h => absurd h List.not_mem_nil⟩⟩⟩⟩⟩⟩⟩⟩⟩⟩⟩⟩⟩⟩⟩⟩
theorem lw_p64 : lw_okq (⟨"PatternedDecimalsModel", "affix", "(I)V"⟩, 23) := ⟨⟨by decide +kernel, by decide +kernel⟩, List.mem_of_getElem? (i := 670) (by decide +kernel), List.mem_of_getElem? (i := 778) (by decide +kernel), List.mem_of_getElem? (i := 779) (by decide +kernel)⟩
theorem lw_p65 : lw_okq (⟨"PatternedDecimalsModel", "is", "(IC)Z"⟩, 23) := ⟨⟨by decide +kernel, by decide +kernel⟩, List.mem_of_getElem? (i := 670) (by decide +kernel), List.mem_of_getElem? (i := 782) (by decide +kernel), List.mem_of_getElem? (i := 783) (by decide +kernel)⟩
theorem lw_p66 : lw_okq (⟨"PatternedDecimalsModel", "keep", "(II)V"⟩, 23) := ⟨⟨by decide +kernel, by decide +kernel⟩, List.mem_of_getElem? (i := 670) (by decide +kernel), List.mem_of_getElem? (i := 786) (by decide +kernel), List.mem_of_getElem? (i := 787) (by decide +kernel)⟩
theorem lw_p67 : lw_okq (⟨"PatternedDecimalsModel", "number", "(Z)V"⟩, 23) := ⟨⟨by decide +kernel, by decide +kernel⟩, List.mem_of_getElem? (i := 670) (by decide +kernel), List.mem_of_getElem? (i := 793) (by decide +kernel), List.mem_of_getElem? (i := 794) (by decide +kernel)⟩
theorem lw_p68 : lw_okq (⟨"PatternedDecimalsModel", "whole", "(Z)I"⟩, 23) := ⟨⟨by decide +kernel, by decide +kernel⟩, List.mem_of_getElem? (i := 670) (by decide +kernel), List.mem_of_getElem? (i := 797) (by decide +kernel), List.mem_of_getElem? (i := 798) (by decide +kernel)⟩
theorem lw_p69 : lw_okq (⟨"PatternedDecimalsModel", "fraction", "(Z)V"⟩, 23) := ⟨⟨by decide +kernel, by decide +kernel⟩, List.mem_of_getElem? (i := 670) (by decide +kernel), List.mem_of_getElem? (i := 801) (by decide +kernel), List.mem_of_getElem? (i := 802) (by decide +kernel)⟩
theorem lw_p70 : lw_okq (⟨"PatternedDecimalsModel", "exponent", "(Z)V"⟩, 23) := ⟨⟨by decide +kernel, by decide +kernel⟩, List.mem_of_getElem? (i := 670) (by decide +kernel), List.mem_of_getElem? (i := 805) (by decide +kernel), List.mem_of_getElem? (i := 806) (by decide +kernel)⟩
theorem lw_p71 : lw_okq (⟨"PatternedDecimalsModel", "hasPercent", "(I)Z"⟩, 23) := ⟨⟨by decide +kernel, by decide +kernel⟩, List.mem_of_getElem? (i := 670) (by decide +kernel), List.mem_of_getElem? (i := 809) (by decide +kernel), List.mem_of_getElem? (i := 810) (by decide +kernel)⟩
theorem lw_p72 : lw_okq (⟨"PatternedDecimalsModel", "lay", "(J)V"⟩, 23) := ⟨⟨by decide +kernel, by decide +kernel⟩, List.mem_of_getElem? (i := 670) (by decide +kernel), List.mem_of_getElem? (i := 827) (by decide +kernel), List.mem_of_getElem? (i := 828) (by decide +kernel)⟩
theorem lw_p73 : lw_okq (⟨"PatternedDecimalsModel", "round", "(IZ)Z"⟩, 23) := ⟨⟨by decide +kernel, by decide +kernel⟩, List.mem_of_getElem? (i := 670) (by decide +kernel), List.mem_of_getElem? (i := 833) (by decide +kernel), List.mem_of_getElem? (i := 834) (by decide +kernel)⟩
theorem lw_p74 : lw_okq (⟨"PatternedDecimalsModel", "rest", "(I)I"⟩, 23) := ⟨⟨by decide +kernel, by decide +kernel⟩, List.mem_of_getElem? (i := 670) (by decide +kernel), List.mem_of_getElem? (i := 837) (by decide +kernel), List.mem_of_getElem? (i := 838) (by decide +kernel)⟩
theorem lw_p75 : lw_okq (⟨"PatternedDecimalsModel", "away", "(IZZ)Z"⟩, 23) := ⟨⟨by decide +kernel, by decide +kernel⟩, List.mem_of_getElem? (i := 670) (by decide +kernel), List.mem_of_getElem? (i := 841) (by decide +kernel), List.mem_of_getElem? (i := 842) (by decide +kernel)⟩
theorem lw_p76 : lw_okq (⟨"PatternedDecimalsModel", "writeAffix", "(ZI)V"⟩, 23) := ⟨⟨by decide +kernel, by decide +kernel⟩, List.mem_of_getElem? (i := 670) (by decide +kernel), List.mem_of_getElem? (i := 845) (by decide +kernel), List.mem_of_getElem? (i := 846) (by decide +kernel)⟩
theorem lw_p77 : lw_okq (⟨"PatternedDecimalsModel", "shownLength", "(ZI)I"⟩, 23) := ⟨⟨by decide +kernel, by decide +kernel⟩, List.mem_of_getElem? (i := 670) (by decide +kernel), List.mem_of_getElem? (i := 849) (by decide +kernel), List.mem_of_getElem? (i := 850) (by decide +kernel)⟩
theorem lw_p78 : lw_okq (⟨"PatternedDecimalsModel", "borrowed", "(Z)Z"⟩, 23) := ⟨⟨by decide +kernel, by decide +kernel⟩, List.mem_of_getElem? (i := 670) (by decide +kernel), List.mem_of_getElem? (i := 853) (by decide +kernel), List.mem_of_getElem? (i := 854) (by decide +kernel)⟩
theorem lw_p79 : lw_okq (⟨"PatternedDecimalsModel", "shown", "(ZII)I"⟩, 23) := ⟨⟨by decide +kernel, by decide +kernel⟩, List.mem_of_getElem? (i := 670) (by decide +kernel), List.mem_of_getElem? (i := 857) (by decide +kernel), List.mem_of_getElem? (i := 858) (by decide +kernel)⟩
def lw_privs_5 : List (MethodName × Nat) := [(⟨"PatternedDecimalsModel", "affix", "(I)V"⟩, 23), (⟨"PatternedDecimalsModel", "is", "(IC)Z"⟩, 23), (⟨"PatternedDecimalsModel", "keep", "(II)V"⟩, 23), (⟨"PatternedDecimalsModel", "number", "(Z)V"⟩, 23), (⟨"PatternedDecimalsModel", "whole", "(Z)I"⟩, 23), (⟨"PatternedDecimalsModel", "fraction", "(Z)V"⟩, 23), (⟨"PatternedDecimalsModel", "exponent", "(Z)V"⟩, 23), (⟨"PatternedDecimalsModel", "hasPercent", "(I)Z"⟩, 23), (⟨"PatternedDecimalsModel", "lay", "(J)V"⟩, 23), (⟨"PatternedDecimalsModel", "round", "(IZ)Z"⟩, 23), (⟨"PatternedDecimalsModel", "rest", "(I)I"⟩, 23), (⟨"PatternedDecimalsModel", "away", "(IZZ)Z"⟩, 23), (⟨"PatternedDecimalsModel", "writeAffix", "(ZI)V"⟩, 23), (⟨"PatternedDecimalsModel", "shownLength", "(ZI)I"⟩, 23), (⟨"PatternedDecimalsModel", "borrowed", "(Z)Z"⟩, 23), (⟨"PatternedDecimalsModel", "shown", "(ZII)I"⟩, 23)]
theorem lw_r5 : ∀ q ∈ lw_privs_5, lw_okq q := List.forall_mem_cons.mpr ⟨lw_p64, List.forall_mem_cons.mpr ⟨lw_p65, List.forall_mem_cons.mpr ⟨lw_p66, List.forall_mem_cons.mpr ⟨lw_p67, List.forall_mem_cons.mpr ⟨lw_p68, List.forall_mem_cons.mpr ⟨lw_p69, List.forall_mem_cons.mpr ⟨lw_p70, List.forall_mem_cons.mpr ⟨lw_p71, List.forall_mem_cons.mpr ⟨lw_p72, List.forall_mem_cons.mpr ⟨lw_p73, List.forall_mem_cons.mpr ⟨lw_p74, List.forall_mem_cons.mpr ⟨lw_p75, List.forall_mem_cons.mpr ⟨lw_p76, List.forall_mem_cons.mpr ⟨lw_p77, List.forall_mem_cons.mpr ⟨lw_p78, List.forall_mem_cons.mpr ⟨lw_p79, fun _ h => absurd h List.not_mem_nil⟩⟩⟩⟩⟩⟩⟩⟩⟩⟩⟩⟩⟩⟩⟩⟩
theorem lw_p80 : lw_okq (⟨"PatternedDecimalsModel", "write", "(I)V"⟩, 23) := ⟨⟨by decide +kernel, by decide +kernel⟩, List.mem_of_getElem? (i := 670) (by decide +kernel), List.mem_of_getElem? (i := 861) (by decide +kernel), List.mem_of_getElem? (i := 862) (by decide +kernel)⟩
theorem lw_p81 : lw_okq (⟨"PatternedDecimalsModel", "fractions", "()I"⟩, 23) := ⟨⟨by decide +kernel, by decide +kernel⟩, List.mem_of_getElem? (i := 670) (by decide +kernel), List.mem_of_getElem? (i := 865) (by decide +kernel), List.mem_of_getElem? (i := 866) (by decide +kernel)⟩
theorem lw_p82 : lw_okq (⟨"PatternedDecimalsModel", "placed", "(I)I"⟩, 23) := ⟨⟨by decide +kernel, by decide +kernel⟩, List.mem_of_getElem? (i := 670) (by decide +kernel), List.mem_of_getElem? (i := 869) (by decide +kernel), List.mem_of_getElem? (i := 870) (by decide +kernel)⟩
theorem lw_p83 : lw_okq (⟨"PatternedDecimalsModel", "writeWhole", "(I)V"⟩, 23) := ⟨⟨by decide +kernel, by decide +kernel⟩, List.mem_of_getElem? (i := 670) (by decide +kernel), List.mem_of_getElem? (i := 873) (by decide +kernel), List.mem_of_getElem? (i := 874) (by decide +kernel)⟩
theorem lw_p84 : lw_okq (⟨"PatternedDecimalsModel", "writeFraction", "(I)V"⟩, 23) := ⟨⟨by decide +kernel, by decide +kernel⟩, List.mem_of_getElem? (i := 670) (by decide +kernel), List.mem_of_getElem? (i := 877) (by decide +kernel), List.mem_of_getElem? (i := 878) (by decide +kernel)⟩
theorem lw_p85 : lw_okq (⟨"PatternedDecimalsModel", "writeExponent", "(I)V"⟩, 23) := ⟨⟨by decide +kernel, by decide +kernel⟩, List.mem_of_getElem? (i := 670) (by decide +kernel), List.mem_of_getElem? (i := 881) (by decide +kernel), List.mem_of_getElem? (i := 882) (by decide +kernel)⟩
theorem lw_p86 : lw_okq (⟨"PatternedDecimalsModel", "printAffix", "(I)V"⟩, 23) := ⟨⟨by decide +kernel, by decide +kernel⟩, List.mem_of_getElem? (i := 670) (by decide +kernel), List.mem_of_getElem? (i := 893) (by decide +kernel), List.mem_of_getElem? (i := 894) (by decide +kernel)⟩
theorem lw_p87 : lw_okq (⟨"PatternedDecimalsModel", "printNumber", "()V"⟩, 23) := ⟨⟨by decide +kernel, by decide +kernel⟩, List.mem_of_getElem? (i := 670) (by decide +kernel), List.mem_of_getElem? (i := 897) (by decide +kernel), List.mem_of_getElem? (i := 898) (by decide +kernel)⟩
theorem lw_p88 : lw_okq (⟨"PatternedDecimalsModel", "many", "(IC)V"⟩, 23) := ⟨⟨by decide +kernel, by decide +kernel⟩, List.mem_of_getElem? (i := 670) (by decide +kernel), List.mem_of_getElem? (i := 901) (by decide +kernel), List.mem_of_getElem? (i := 902) (by decide +kernel)⟩
theorem lw_p89 : lw_okq (⟨"PatternedDecimalsModel", "like", "(III)Z"⟩, 23) := ⟨⟨by decide +kernel, by decide +kernel⟩, List.mem_of_getElem? (i := 670) (by decide +kernel), List.mem_of_getElem? (i := 905) (by decide +kernel), List.mem_of_getElem? (i := 906) (by decide +kernel)⟩
theorem lw_p90 : lw_okq (⟨"PatternedDecimalsModel", "ofSign", "(Z)Z"⟩, 23) := ⟨⟨by decide +kernel, by decide +kernel⟩, List.mem_of_getElem? (i := 670) (by decide +kernel), List.mem_of_getElem? (i := 913) (by decide +kernel), List.mem_of_getElem? (i := 914) (by decide +kernel)⟩
theorem lw_p91 : lw_okq (⟨"PatternedDecimalsModel", "body", "(II)Z"⟩, 23) := ⟨⟨by decide +kernel, by decide +kernel⟩, List.mem_of_getElem? (i := 670) (by decide +kernel), List.mem_of_getElem? (i := 917) (by decide +kernel), List.mem_of_getElem? (i := 918) (by decide +kernel)⟩
theorem lw_p92 : lw_okq (⟨"PatternedDecimalsModel", "digitAt", "(II)Z"⟩, 23) := ⟨⟨by decide +kernel, by decide +kernel⟩, List.mem_of_getElem? (i := 670) (by decide +kernel), List.mem_of_getElem? (i := 921) (by decide +kernel), List.mem_of_getElem? (i := 922) (by decide +kernel)⟩
def lw_privs_6 : List (MethodName × Nat) := [(⟨"PatternedDecimalsModel", "write", "(I)V"⟩, 23), (⟨"PatternedDecimalsModel", "fractions", "()I"⟩, 23), (⟨"PatternedDecimalsModel", "placed", "(I)I"⟩, 23), (⟨"PatternedDecimalsModel", "writeWhole", "(I)V"⟩, 23), (⟨"PatternedDecimalsModel", "writeFraction", "(I)V"⟩, 23), (⟨"PatternedDecimalsModel", "writeExponent", "(I)V"⟩, 23), (⟨"PatternedDecimalsModel", "printAffix", "(I)V"⟩, 23), (⟨"PatternedDecimalsModel", "printNumber", "()V"⟩, 23), (⟨"PatternedDecimalsModel", "many", "(IC)V"⟩, 23), (⟨"PatternedDecimalsModel", "like", "(III)Z"⟩, 23), (⟨"PatternedDecimalsModel", "ofSign", "(Z)Z"⟩, 23), (⟨"PatternedDecimalsModel", "body", "(II)Z"⟩, 23), (⟨"PatternedDecimalsModel", "digitAt", "(II)Z"⟩, 23)]
theorem lw_r6 : ∀ q ∈ lw_privs_6, lw_okq q := List.forall_mem_cons.mpr ⟨lw_p80, List.forall_mem_cons.mpr ⟨lw_p81, List.forall_mem_cons.mpr ⟨lw_p82, List.forall_mem_cons.mpr ⟨lw_p83, List.forall_mem_cons.mpr ⟨lw_p84, List.forall_mem_cons.mpr ⟨lw_p85, List.forall_mem_cons.mpr ⟨lw_p86, List.forall_mem_cons.mpr ⟨lw_p87, List.forall_mem_cons.mpr ⟨lw_p88, List.forall_mem_cons.mpr ⟨lw_p89, List.forall_mem_cons.mpr ⟨lw_p90, List.forall_mem_cons.mpr ⟨lw_p91, List.forall_mem_cons.mpr ⟨lw_p92, fun _ h => absurd h List.not_mem_nil⟩⟩⟩⟩⟩⟩⟩⟩⟩⟩⟩⟩⟩
def lw_privs : List (MethodName × Nat) := lw_privs_1 ++ (lw_privs_2 ++ (lw_privs_3 ++ (lw_privs_4 ++ (lw_privs_5 ++ (lw_privs_6)))))
def lw_tbl : List Cond := k2_sels lw_privs ++ tables_1
theorem lw_privs_ok : ∀ q ∈ lw_privs, lw_okq q := by
  show ∀ q ∈ lw_privs_1 ++ (lw_privs_2 ++ (lw_privs_3 ++ (lw_privs_4 ++ (lw_privs_5 ++ (lw_privs_6))))), lw_okq q
  exact List.forall_mem_append.mpr ⟨lw_r1, List.forall_mem_append.mpr ⟨lw_r2, List.forall_mem_append.mpr ⟨lw_r3, List.forall_mem_append.mpr ⟨lw_r4, List.forall_mem_append.mpr ⟨lw_r5, lw_r6⟩⟩⟩⟩⟩
end
section
def isNest : Cond → Bool
  | .fieldLinkNest .. => true
  | .methodLinkNest .. => true
  | _ => false
def R_Row : String := "PatternedDecimals$Row"
def F_Row : u_T := fun k => match k with
  | 0 => ("PatternedDecimals$Row", "chars", "[C", true)
  | _ => ("PatternedDecimals$Row", "count", "I", false)
def t_Row : Nat → FieldType := fun k => match k with
  | 0 => .array .char
  | _ => .int
theorem n_Row : ∀ a, a < 2 → ∀ b, b < 2 → a ≠ b → (F_Row a).2.1 ≠ (F_Row b).2.1 := by decide +kernel
theorem t_Row_ok : ∀ k, k < 2 → parseFieldDescriptor (F_Row k).2.2.1 = some (t_Row k) := by decide +kernel
abbrev T_Row : Type := (Nat → Int32) × Int32
def R_Affix : String := "PatternedDecimals$Affix"
def F_Affix : u_T := fun k => match k with
  | 0 => ("PatternedDecimals$Affix", "elements", "[I", true)
  | _ => ("PatternedDecimals$Affix", "count", "I", false)
def t_Affix : Nat → FieldType := fun k => match k with
  | 0 => .array .int
  | _ => .int
theorem n_Affix : ∀ a, a < 2 → ∀ b, b < 2 → a ≠ b → (F_Affix a).2.1 ≠ (F_Affix b).2.1 := by decide +kernel
theorem t_Affix_ok : ∀ k, k < 2 → parseFieldDescriptor (F_Affix k).2.2.1 = some (t_Affix k) := by decide +kernel
abbrev T_Affix : Type := (Nat → Int32) × Int32
def R_Shape : String := "PatternedDecimals$Shape"
def F_Shape : u_T := fun k => match k with
  | 0 => ("PatternedDecimals$Shape", "hashes", "I", false)
  | 1 => ("PatternedDecimals$Shape", "leastInteger", "I", false)
  | 2 => ("PatternedDecimals$Shape", "leastFraction", "I", false)
  | 3 => ("PatternedDecimals$Shape", "mostFraction", "I", false)
  | 4 => ("PatternedDecimals$Shape", "grouped", "Z", false)
  | 5 => ("PatternedDecimals$Shape", "group", "I", false)
  | _ => ("PatternedDecimals$Shape", "exponentZeros", "I", false)
def t_Shape : Nat → FieldType := fun k => match k with
  | 0 => .int
  | 1 => .int
  | 2 => .int
  | 3 => .int
  | 4 => .boolean
  | 5 => .int
  | _ => .int
theorem n_Shape : ∀ a, a < 7 → ∀ b, b < 7 → a ≠ b → (F_Shape a).2.1 ≠ (F_Shape b).2.1 := by decide +kernel
theorem t_Shape_ok : ∀ k, k < 7 → parseFieldDescriptor (F_Shape k).2.2.1 = some (t_Shape k) := by decide +kernel
abbrev T_Shape : Type := Int32 × Int32 × Int32 × Int32 × Int32 × Int32 × Int32
def R_Part : String := "PatternedDecimals$Part"
def F_Part : u_T := fun k => match k with
  | 0 => ("PatternedDecimals$Part", "prefix", "LPatternedDecimals$Affix;", true)
  | 1 => ("PatternedDecimals$Part", "shape", "LPatternedDecimals$Shape;", true)
  | _ => ("PatternedDecimals$Part", "suffix", "LPatternedDecimals$Affix;", true)
def t_Part : Nat → FieldType := fun k => match k with
  | 0 => .object "PatternedDecimals$Affix"
  | 1 => .object "PatternedDecimals$Shape"
  | _ => .object "PatternedDecimals$Affix"
theorem n_Part : ∀ a, a < 3 → ∀ b, b < 3 → a ≠ b → (F_Part a).2.1 ≠ (F_Part b).2.1 := by decide +kernel
theorem t_Part_ok : ∀ k, k < 3 → parseFieldDescriptor (F_Part k).2.2.1 = some (t_Part k) := by decide +kernel
abbrev T_Part : Type := T_Affix × T_Shape × T_Affix
def R_Pattern : String := "PatternedDecimals$Pattern"
def F_Pattern : u_T := fun k => match k with
  | 0 => ("PatternedDecimals$Pattern", "first", "LPatternedDecimals$Part;", true)
  | 1 => ("PatternedDecimals$Pattern", "second", "LPatternedDecimals$Part;", true)
  | 2 => ("PatternedDecimals$Pattern", "hasSecond", "Z", false)
  | _ => ("PatternedDecimals$Pattern", "hasPercent", "Z", false)
def t_Pattern : Nat → FieldType := fun k => match k with
  | 0 => .object "PatternedDecimals$Part"
  | 1 => .object "PatternedDecimals$Part"
  | 2 => .boolean
  | _ => .boolean
theorem n_Pattern : ∀ a, a < 4 → ∀ b, b < 4 → a ≠ b → (F_Pattern a).2.1 ≠ (F_Pattern b).2.1 := by decide +kernel
theorem t_Pattern_ok : ∀ k, k < 4 → parseFieldDescriptor (F_Pattern k).2.2.1 = some (t_Pattern k) := by decide +kernel
abbrev T_Pattern : Type := T_Part × T_Part × Int32 × Int32
def R_PatternReader : String := "PatternedDecimals$PatternReader"
def F_PatternReader : u_T := fun k => match k with
  | _ => ("PatternedDecimals$PatternReader", "place", "I", false)
def t_PatternReader : Nat → FieldType := fun k => match k with
  | _ => .int
theorem n_PatternReader : ∀ a, a < 1 → ∀ b, b < 1 → a ≠ b → (F_PatternReader a).2.1 ≠ (F_PatternReader b).2.1 := by decide +kernel
theorem t_PatternReader_ok : ∀ k, k < 1 → parseFieldDescriptor (F_PatternReader k).2.2.1 = some (t_PatternReader k) := by decide +kernel
abbrev T_PatternReader : Type := Int32
def R_PatternWriter : String := "PatternedDecimals$PatternWriter"
def F_PatternWriter : u_T := fun k => match k with
  | _ => ("", "", "", false)
def t_PatternWriter : Nat → FieldType := fun k => match k with
  | _ => .int
theorem n_PatternWriter : ∀ a, a < 0 → ∀ b, b < 0 → a ≠ b → (F_PatternWriter a).2.1 ≠ (F_PatternWriter b).2.1 := by decide +kernel
theorem t_PatternWriter_ok : ∀ k, k < 0 → parseFieldDescriptor (F_PatternWriter k).2.2.1 = some (t_PatternWriter k) := by decide +kernel
abbrev T_PatternWriter : Type := Unit
def R_Decimal : String := "PatternedDecimals$Decimal"
def F_Decimal : u_T := fun k => match k with
  | 0 => ("PatternedDecimals$Decimal", "negative", "Z", false)
  | 1 => ("PatternedDecimals$Decimal", "digits", "J", false)
  | _ => ("PatternedDecimals$Decimal", "places", "I", false)
def t_Decimal : Nat → FieldType := fun k => match k with
  | 0 => .boolean
  | 1 => .long
  | _ => .int
theorem n_Decimal : ∀ a, a < 3 → ∀ b, b < 3 → a ≠ b → (F_Decimal a).2.1 ≠ (F_Decimal b).2.1 := by decide +kernel
theorem t_Decimal_ok : ∀ k, k < 3 → parseFieldDescriptor (F_Decimal k).2.2.1 = some (t_Decimal k) := by decide +kernel
abbrev T_Decimal : Type := Int32 × Int64 × Int32
def R_NumberWriter : String := "PatternedDecimals$NumberWriter"
def F_NumberWriter : u_T := fun k => match k with
  | 0 => ("PatternedDecimals$NumberWriter", "decimal", "LPatternedDecimals$Decimal;", true)
  | 1 => ("PatternedDecimals$NumberWriter", "exponent", "I", false)
  | 2 => ("PatternedDecimals$NumberWriter", "edges", "[I", true)
  | _ => ("PatternedDecimals$NumberWriter", "hasFields", "Z", false)
def t_NumberWriter : Nat → FieldType := fun k => match k with
  | 0 => .object "PatternedDecimals$Decimal"
  | 1 => .int
  | 2 => .array .int
  | _ => .boolean
theorem n_NumberWriter : ∀ a, a < 4 → ∀ b, b < 4 → a ≠ b → (F_NumberWriter a).2.1 ≠ (F_NumberWriter b).2.1 := by decide +kernel
theorem t_NumberWriter_ok : ∀ k, k < 4 → parseFieldDescriptor (F_NumberWriter k).2.2.1 = some (t_NumberWriter k) := by decide +kernel
abbrev T_NumberWriter : Type := T_Decimal × Int32 × (Nat → Int32) × Int32
def R_NumberReader : String := "PatternedDecimals$NumberReader"
def F_NumberReader : u_T := fun k => match k with
  | 0 => ("PatternedDecimals$NumberReader", "begin", "I", false)
  | 1 => ("PatternedDecimals$NumberReader", "end", "I", false)
  | 2 => ("PatternedDecimals$NumberReader", "place", "I", false)
  | 3 => ("PatternedDecimals$NumberReader", "negative", "Z", false)
  | 4 => ("PatternedDecimals$NumberReader", "allDigits", "I", false)
  | 5 => ("PatternedDecimals$NumberReader", "fractionDigits", "I", false)
  | 6 => ("PatternedDecimals$NumberReader", "exponent", "I", false)
  | 7 => ("PatternedDecimals$NumberReader", "digits", "J", false)
  | 8 => ("PatternedDecimals$NumberReader", "digitsCounted", "I", false)
  | 9 => ("PatternedDecimals$NumberReader", "zerosBehind", "I", false)
  | _ => ("PatternedDecimals$NumberReader", "percentPlaces", "I", false)
def t_NumberReader : Nat → FieldType := fun k => match k with
  | 0 => .int
  | 1 => .int
  | 2 => .int
  | 3 => .boolean
  | 4 => .int
  | 5 => .int
  | 6 => .int
  | 7 => .long
  | 8 => .int
  | 9 => .int
  | _ => .int
theorem n_NumberReader : ∀ a, a < 11 → ∀ b, b < 11 → a ≠ b → (F_NumberReader a).2.1 ≠ (F_NumberReader b).2.1 := by decide +kernel
theorem t_NumberReader_ok : ∀ k, k < 11 → parseFieldDescriptor (F_NumberReader k).2.2.1 = some (t_NumberReader k) := by decide +kernel
abbrev T_NumberReader : Type := Int32 × Int32 × Int32 × Int32 × Int32 × Int32 × Int32 × Int64 × Int32 × Int32 × Int32
def R_Deci : String := "PatternedDecimals"
def F_Deci : u_T := fun k => match k with
  | 0 => ("PatternedDecimals", "typed", "LPatternedDecimals$Row;", true)
  | 1 => ("PatternedDecimals", "written", "LPatternedDecimals$Row;", true)
  | 2 => ("PatternedDecimals", "patternReader", "LPatternedDecimals$PatternReader;", true)
  | 3 => ("PatternedDecimals", "patternWriter", "LPatternedDecimals$PatternWriter;", true)
  | 4 => ("PatternedDecimals", "numberWriter", "LPatternedDecimals$NumberWriter;", true)
  | 5 => ("PatternedDecimals", "numberReader", "LPatternedDecimals$NumberReader;", true)
  | 6 => ("PatternedDecimals", "pattern", "LPatternedDecimals$Pattern;", false)
  | 7 => ("PatternedDecimals", "spare", "LPatternedDecimals$Pattern;", false)
  | 8 => ("PatternedDecimals", "hasPattern", "Z", false)
  | 9 => ("PatternedDecimals", "roundingMode", "I", false)
  | 10 => ("PatternedDecimals", "readValue", "J", false)
  | _ => ("PatternedDecimals", "readScale", "I", false)
def t_Deci : Nat → FieldType := fun k => match k with
  | 0 => .object "PatternedDecimals$Row"
  | 1 => .object "PatternedDecimals$Row"
  | 2 => .object "PatternedDecimals$PatternReader"
  | 3 => .object "PatternedDecimals$PatternWriter"
  | 4 => .object "PatternedDecimals$NumberWriter"
  | 5 => .object "PatternedDecimals$NumberReader"
  | 6 => .object "PatternedDecimals$Pattern"
  | 7 => .object "PatternedDecimals$Pattern"
  | 8 => .boolean
  | 9 => .int
  | 10 => .long
  | _ => .int
theorem n_Deci : ∀ a, a < 12 → ∀ b, b < 12 → a ≠ b → (F_Deci a).2.1 ≠ (F_Deci b).2.1 := by decide +kernel
theorem t_Deci_ok : ∀ k, k < 12 → parseFieldDescriptor (F_Deci k).2.2.1 = some (t_Deci k) := by decide +kernel
abbrev T_Deci : Type := T_Row × T_Row × T_PatternReader × T_PatternWriter × T_NumberWriter × T_NumberReader × T_Pattern × T_Pattern × Int32 × Int32 × Int64 × Int32
def R_Model : String := "PatternedDecimalsModel"
def F_Model : u_T := fun k => match k with
  | 0 => ("PatternedDecimalsModel", "text", "[C", false)
  | 1 => ("PatternedDecimalsModel", "size", "I", false)
  | 2 => ("PatternedDecimalsModel", "written", "[C", false)
  | 3 => ("PatternedDecimalsModel", "end", "I", false)
  | 4 => ("PatternedDecimalsModel", "how", "I", false)
  | 5 => ("PatternedDecimalsModel", "there", "Z", false)
  | 6 => ("PatternedDecimalsModel", "element", "[I", false)
  | 7 => ("PatternedDecimalsModel", "elements", "[I", false)
  | 8 => ("PatternedDecimalsModel", "kept", "[I", false)
  | 9 => ("PatternedDecimalsModel", "at", "I", false)
  | 10 => ("PatternedDecimalsModel", "wrong", "I", false)
  | 11 => ("PatternedDecimalsModel", "open", "Z", false)
  | 12 => ("PatternedDecimalsModel", "keeping", "Z", false)
  | 13 => ("PatternedDecimalsModel", "digit", "[I", false)
  | 14 => ("PatternedDecimalsModel", "digits", "I", false)
  | 15 => ("PatternedDecimalsModel", "point", "I", false)
  | 16 => ("PatternedDecimalsModel", "formatted", "Z", false)
  | 17 => ("PatternedDecimalsModel", "bounds", "[I", false)
  | 18 => ("PatternedDecimalsModel", "read", "J", false)
  | 19 => ("PatternedDecimalsModel", "readScale", "I", false)
  | 20 => ("PatternedDecimalsModel", "newRead", "J", false)
  | 21 => ("PatternedDecimalsModel", "newScale", "I", false)
  | _ => ("PatternedDecimalsModel", "large", "Z", false)
def t_Model : Nat → FieldType := fun k => match k with
  | 0 => .array .char
  | 1 => .int
  | 2 => .array .char
  | 3 => .int
  | 4 => .int
  | 5 => .boolean
  | 6 => .array .int
  | 7 => .array .int
  | 8 => .array .int
  | 9 => .int
  | 10 => .int
  | 11 => .boolean
  | 12 => .boolean
  | 13 => .array .int
  | 14 => .int
  | 15 => .int
  | 16 => .boolean
  | 17 => .array .int
  | 18 => .long
  | 19 => .int
  | 20 => .long
  | 21 => .int
  | _ => .boolean
theorem n_Model : ∀ a, a < 23 → ∀ b, b < 23 → a ≠ b → (F_Model a).2.1 ≠ (F_Model b).2.1 := by decide +kernel
theorem t_Model_ok : ∀ k, k < 23 → parseFieldDescriptor (F_Model k).2.2.1 = some (t_Model k) := by decide +kernel
abbrev T_Model : Type := (Nat → Int32) × Int32 × (Nat → Int32) × Int32 × Int32 × Int32 × (Nat → Int32) × (Nat → Int32) × (Nat → Int32) × Int32 × Int32 × Int32 × Int32 × (Nat → Int32) × Int32 × Int32 × Int32 × (Nat → Int32) × Int64 × Int32 × Int64 × Int32 × Int32
def R_Long : String := "java/lang/Long"
abbrev classes : List vw_C := [(R_Row, F_Row, 2), (R_Affix, F_Affix, 2), (R_Shape, F_Shape, 7), (R_Part, F_Part, 3), (R_Pattern, F_Pattern, 4), (R_PatternReader, F_PatternReader, 1), (R_PatternWriter, F_PatternWriter, 0), (R_Decimal, F_Decimal, 3), (R_NumberWriter, F_NumberWriter, 4), (R_NumberReader, F_NumberReader, 11), (R_Deci, F_Deci, 12), (R_Model, F_Model, 23)]
abbrev b_Row_init : ByteArray := prog_10_method_1_code
def y_Row_init : MethodName := ⟨R_Row, "<init>", "()V"⟩
abbrev b_Row_size : ByteArray := prog_10_method_2_code
def y_Row_size : MethodName := ⟨R_Row, "size", "()I"⟩
abbrev b_Row_at : ByteArray := prog_10_method_3_code
def y_Row_at : MethodName := ⟨R_Row, "at", "(I)I"⟩
abbrev b_Row_add : ByteArray := prog_10_method_4_code
def y_Row_add : MethodName := ⟨R_Row, "add", "(C)Z"⟩
abbrev b_Row_clear : ByteArray := prog_10_method_5_code
def y_Row_clear : MethodName := ⟨R_Row, "clear", "()V"⟩
abbrev b_Row_become : ByteArray := prog_10_method_6_code
def y_Row_become : MethodName := ⟨R_Row, "become", "(LPatternedDecimals$Row;)V"⟩
abbrev b_Affix_init : ByteArray := prog_2_method_1_code
def y_Affix_init : MethodName := ⟨R_Affix, "<init>", "()V"⟩
abbrev b_Affix_size : ByteArray := prog_2_method_2_code
def y_Affix_size : MethodName := ⟨R_Affix, "size", "()I"⟩
abbrev b_Affix_at : ByteArray := prog_2_method_3_code
def y_Affix_at : MethodName := ⟨R_Affix, "at", "(I)I"⟩
abbrev b_Affix_clear : ByteArray := prog_2_method_4_code
def y_Affix_clear : MethodName := ⟨R_Affix, "clear", "()V"⟩
abbrev b_Affix_add : ByteArray := prog_2_method_5_code
def y_Affix_add : MethodName := ⟨R_Affix, "add", "(I)V"⟩
abbrev b_Affix_addAll : ByteArray := prog_2_method_6_code
def y_Affix_addAll : MethodName := ⟨R_Affix, "addAll", "(LPatternedDecimals$Affix;)V"⟩
abbrev b_Affix_hasPercent : ByteArray := prog_2_method_7_code
def y_Affix_hasPercent : MethodName := ⟨R_Affix, "hasPercent", "()Z"⟩
abbrev b_Affix_endsAs : ByteArray := prog_2_method_8_code
def y_Affix_endsAs : MethodName := ⟨R_Affix, "endsAs", "(LPatternedDecimals$Affix;I)Z"⟩
abbrev b_Affix_shownAt : ByteArray := prog_2_method_9_code
def y_Affix_shownAt : MethodName := ⟨R_Affix, "shownAt", "(I)I"⟩
abbrev b_Affix_show : ByteArray := prog_2_method_10_code
def y_Affix_show : MethodName := ⟨R_Affix, "show", "(LPatternedDecimals$Row;)V"⟩
abbrev b_Affix_standsIn : ByteArray := prog_2_method_11_code
def y_Affix_standsIn : MethodName := ⟨R_Affix, "standsIn", "(LPatternedDecimals$Row;I)Z"⟩
abbrev b_Shape_init : ByteArray := prog_11_method_1_code
def y_Shape_init : MethodName := ⟨R_Shape, "<init>", "()V"⟩
abbrev b_Shape_clear : ByteArray := prog_11_method_2_code
def y_Shape_clear : MethodName := ⟨R_Shape, "clear", "()V"⟩
abbrev b_Shape_startGroup : ByteArray := prog_11_method_3_code
def y_Shape_startGroup : MethodName := ⟨R_Shape, "startGroup", "()V"⟩
abbrev b_Shape_takeInteger : ByteArray := prog_11_method_4_code
def y_Shape_takeInteger : MethodName := ⟨R_Shape, "takeInteger", "(I)Z"⟩
abbrev b_Shape_takeFraction : ByteArray := prog_11_method_5_code
def y_Shape_takeFraction : MethodName := ⟨R_Shape, "takeFraction", "(I)Z"⟩
abbrev b_Shape_allowsExponent : ByteArray := prog_11_method_6_code
def y_Shape_allowsExponent : MethodName := ⟨R_Shape, "allowsExponent", "()Z"⟩
abbrev b_Part_init : ByteArray := prog_6_method_1_code
def y_Part_init : MethodName := ⟨R_Part, "<init>", "()V"⟩
abbrev b_Pattern_init : ByteArray := prog_7_method_1_code
def y_Pattern_init : MethodName := ⟨R_Pattern, "<init>", "()V"⟩
abbrev b_Pattern_complete : ByteArray := prog_7_method_2_code
def y_Pattern_complete : MethodName := ⟨R_Pattern, "complete", "()V"⟩
abbrev b_Pattern_secondIsUsual : ByteArray := prog_7_method_3_code
def y_Pattern_secondIsUsual : MethodName := ⟨R_Pattern, "secondIsUsual", "()Z"⟩
abbrev b_PatternReader_init : ByteArray := prog_8_method_1_code
def y_PatternReader_init : MethodName := ⟨R_PatternReader, "<init>", "()V"⟩
abbrev b_PatternReader_read : ByteArray := prog_8_method_2_code
def y_PatternReader_read : MethodName := ⟨R_PatternReader, "read", "(LPatternedDecimals$Row;LPatternedDecimals$Pattern;)I"⟩
abbrev b_PatternReader_readPart : ByteArray := prog_8_method_3_code
def y_PatternReader_readPart : MethodName := ⟨R_PatternReader, "readPart", "(LPatternedDecimals$Row;LPatternedDecimals$Part;)Z"⟩
abbrev b_PatternReader_readAffix : ByteArray := prog_8_method_4_code
def y_PatternReader_readAffix : MethodName := ⟨R_PatternReader, "readAffix", "(LPatternedDecimals$Row;LPatternedDecimals$Affix;)Z"⟩
abbrev b_PatternReader_readNumber : ByteArray := prog_8_method_5_code
def y_PatternReader_readNumber : MethodName := ⟨R_PatternReader, "readNumber", "(LPatternedDecimals$Row;LPatternedDecimals$Shape;)Z"⟩
abbrev b_PatternReader_readInteger : ByteArray := prog_8_method_6_code
def y_PatternReader_readInteger : MethodName := ⟨R_PatternReader, "readInteger", "(LPatternedDecimals$Row;LPatternedDecimals$Shape;)Z"⟩
abbrev b_PatternReader_readFraction : ByteArray := prog_8_method_7_code
def y_PatternReader_readFraction : MethodName := ⟨R_PatternReader, "readFraction", "(LPatternedDecimals$Row;LPatternedDecimals$Shape;)V"⟩
abbrev b_PatternReader_readExponent : ByteArray := prog_8_method_8_code
def y_PatternReader_readExponent : MethodName := ⟨R_PatternReader, "readExponent", "(LPatternedDecimals$Row;LPatternedDecimals$Shape;)Z"⟩
abbrev b_PatternWriter_init : ByteArray := prog_9_method_1_code
def y_PatternWriter_init : MethodName := ⟨R_PatternWriter, "<init>", "()V"⟩
abbrev b_PatternWriter_write : ByteArray := prog_9_method_2_code
def y_PatternWriter_write : MethodName := ⟨R_PatternWriter, "write", "(LPatternedDecimals$Pattern;LPatternedDecimals$Row;)V"⟩
abbrev b_PatternWriter_writeAffix : ByteArray := prog_9_method_3_code
def y_PatternWriter_writeAffix : MethodName := ⟨R_PatternWriter, "writeAffix", "(LPatternedDecimals$Affix;LPatternedDecimals$Row;)V"⟩
abbrev b_PatternWriter_needsQuotes : ByteArray := prog_9_method_4_code
def y_PatternWriter_needsQuotes : MethodName := ⟨R_PatternWriter, "needsQuotes", "(I)Z"⟩
abbrev b_PatternWriter_writeShape : ByteArray := prog_9_method_5_code
def y_PatternWriter_writeShape : MethodName := ⟨R_PatternWriter, "writeShape", "(LPatternedDecimals$Shape;LPatternedDecimals$Row;)V"⟩
abbrev b_PatternWriter_writeInteger : ByteArray := prog_9_method_6_code
def y_PatternWriter_writeInteger : MethodName := ⟨R_PatternWriter, "writeInteger", "(LPatternedDecimals$Shape;LPatternedDecimals$Row;)V"⟩
abbrev b_PatternWriter_writeMany : ByteArray := prog_9_method_7_code
def y_PatternWriter_writeMany : MethodName := ⟨R_PatternWriter, "writeMany", "(CILPatternedDecimals$Row;)V"⟩
abbrev b_Decimal_init : ByteArray := prog_3_method_1_code
def y_Decimal_init : MethodName := ⟨R_Decimal, "<init>", "()V"⟩
abbrev b_Decimal_set : ByteArray := prog_3_method_2_code
def y_Decimal_set : MethodName := ⟨R_Decimal, "set", "(JI)V"⟩
abbrev b_Decimal_isBelowZero : ByteArray := prog_3_method_3_code
def y_Decimal_isBelowZero : MethodName := ⟨R_Decimal, "isBelowZero", "()Z"⟩
abbrev b_Decimal_whole : ByteArray := prog_3_method_4_code
def y_Decimal_whole : MethodName := ⟨R_Decimal, "whole", "()J"⟩
abbrev b_Decimal_roundTo : ByteArray := prog_3_method_5_code
def y_Decimal_roundTo : MethodName := ⟨R_Decimal, "roundTo", "(II)Z"⟩
abbrev b_Decimal_goesAway : ByteArray := prog_3_method_6_code
def y_Decimal_goesAway : MethodName := ⟨R_Decimal, "goesAway", "(IJJJ)Z"⟩
abbrev b_Decimal_fractionCount : ByteArray := prog_3_method_7_code
def y_Decimal_fractionCount : MethodName := ⟨R_Decimal, "fractionCount", "()I"⟩
abbrev b_Decimal_fractionDigit : ByteArray := prog_3_method_8_code
def y_Decimal_fractionDigit : MethodName := ⟨R_Decimal, "fractionDigit", "(I)I"⟩
abbrev b_NumberWriter_init : ByteArray := prog_5_method_1_code
def y_NumberWriter_init : MethodName := ⟨R_NumberWriter, "<init>", "()V"⟩
abbrev b_NumberWriter_forgetFields : ByteArray := prog_5_method_2_code
def y_NumberWriter_forgetFields : MethodName := ⟨R_NumberWriter, "forgetFields", "()V"⟩
abbrev b_NumberWriter_fieldEdge : ByteArray := prog_5_method_3_code
def y_NumberWriter_fieldEdge : MethodName := ⟨R_NumberWriter, "fieldEdge", "(IZ)I"⟩
abbrev b_NumberWriter_prepare : ByteArray := prog_5_method_4_code
def y_NumberWriter_prepare : MethodName := ⟨R_NumberWriter, "prepare", "(LPatternedDecimals$Shape;JII)Z"⟩
abbrev b_NumberWriter_takeExponent : ByteArray := prog_5_method_5_code
def y_NumberWriter_takeExponent : MethodName := ⟨R_NumberWriter, "takeExponent", "(I)V"⟩
abbrev b_NumberWriter_carryExponent : ByteArray := prog_5_method_6_code
def y_NumberWriter_carryExponent : MethodName := ⟨R_NumberWriter, "carryExponent", "(I)V"⟩
abbrev b_NumberWriter_write : ByteArray := prog_5_method_7_code
def y_NumberWriter_write : MethodName := ⟨R_NumberWriter, "write", "(LPatternedDecimals$Pattern;LPatternedDecimals$Row;)V"⟩
abbrev b_NumberWriter_shownFraction : ByteArray := prog_5_method_8_code
def y_NumberWriter_shownFraction : MethodName := ⟨R_NumberWriter, "shownFraction", "(LPatternedDecimals$Shape;)I"⟩
abbrev b_NumberWriter_writeInteger : ByteArray := prog_5_method_9_code
def y_NumberWriter_writeInteger : MethodName := ⟨R_NumberWriter, "writeInteger", "(LPatternedDecimals$Shape;LPatternedDecimals$Row;)V"⟩
abbrev b_NumberWriter_writeFraction : ByteArray := prog_5_method_10_code
def y_NumberWriter_writeFraction : MethodName := ⟨R_NumberWriter, "writeFraction", "(LPatternedDecimals$Shape;LPatternedDecimals$Row;)V"⟩
abbrev b_NumberWriter_writeExponent : ByteArray := prog_5_method_11_code
def y_NumberWriter_writeExponent : MethodName := ⟨R_NumberWriter, "writeExponent", "(LPatternedDecimals$Shape;LPatternedDecimals$Row;)V"⟩
abbrev b_NumberWriter_writeDigits : ByteArray := prog_5_method_12_code
def y_NumberWriter_writeDigits : MethodName := ⟨R_NumberWriter, "writeDigits", "(JIILPatternedDecimals$Row;)V"⟩
abbrev b_NumberReader_init : ByteArray := prog_4_method_1_code
def y_NumberReader_init : MethodName := ⟨R_NumberReader, "<init>", "()V"⟩
abbrev b_NumberReader_signedDigits : ByteArray := prog_4_method_2_code
def y_NumberReader_signedDigits : MethodName := ⟨R_NumberReader, "signedDigits", "()J"⟩
abbrev b_NumberReader_places : ByteArray := prog_4_method_3_code
def y_NumberReader_places : MethodName := ⟨R_NumberReader, "places", "()I"⟩
abbrev b_NumberReader_read : ByteArray := prog_4_method_4_code
def y_NumberReader_read : MethodName := ⟨R_NumberReader, "read", "(LPatternedDecimals$Row;LPatternedDecimals$Pattern;)Z"⟩
abbrev b_NumberReader_startBetween : ByteArray := prog_4_method_5_code
def y_NumberReader_startBetween : MethodName := ⟨R_NumberReader, "startBetween", "(LPatternedDecimals$Row;LPatternedDecimals$Part;)Z"⟩
abbrev b_NumberReader_startBody : ByteArray := prog_4_method_6_code
def y_NumberReader_startBody : MethodName := ⟨R_NumberReader, "startBody", "(II)V"⟩
abbrev b_NumberReader_bodyAt : ByteArray := prog_4_method_7_code
def y_NumberReader_bodyAt : MethodName := ⟨R_NumberReader, "bodyAt", "(LPatternedDecimals$Row;I)I"⟩
abbrev b_NumberReader_readBody : ByteArray := prog_4_method_8_code
def y_NumberReader_readBody : MethodName := ⟨R_NumberReader, "readBody", "(LPatternedDecimals$Row;LPatternedDecimals$Shape;)Z"⟩
abbrev b_NumberReader_readInteger : ByteArray := prog_4_method_9_code
def y_NumberReader_readInteger : MethodName := ⟨R_NumberReader, "readInteger", "(LPatternedDecimals$Row;Z)V"⟩
abbrev b_NumberReader_isBetweenDigits : ByteArray := prog_4_method_10_code
def y_NumberReader_isBetweenDigits : MethodName := ⟨R_NumberReader, "isBetweenDigits", "(LPatternedDecimals$Row;)Z"⟩
abbrev b_NumberReader_readFraction : ByteArray := prog_4_method_11_code
def y_NumberReader_readFraction : MethodName := ⟨R_NumberReader, "readFraction", "(LPatternedDecimals$Row;)V"⟩
abbrev b_NumberReader_takeDigit : ByteArray := prog_4_method_12_code
def y_NumberReader_takeDigit : MethodName := ⟨R_NumberReader, "takeDigit", "(I)V"⟩
abbrev b_NumberReader_readExponent : ByteArray := prog_4_method_13_code
def y_NumberReader_readExponent : MethodName := ⟨R_NumberReader, "readExponent", "(LPatternedDecimals$Row;)Z"⟩
abbrev b_Deci_init : ByteArray := prog_1_method_1_code
def y_Deci_init : MethodName := ⟨R_Deci, "<init>", "()V"⟩
abbrev b_Deci_type : ByteArray := prog_1_method_2_code
def y_Deci_type : MethodName := ⟨R_Deci, "type", "(C)Z"⟩
abbrev b_Deci_wipe : ByteArray := prog_1_method_3_code
def y_Deci_wipe : MethodName := ⟨R_Deci, "wipe", "()V"⟩
abbrev b_Deci_length : ByteArray := prog_1_method_4_code
def y_Deci_length : MethodName := ⟨R_Deci, "length", "()I"⟩
abbrev b_Deci_apply : ByteArray := prog_1_method_5_code
def y_Deci_apply : MethodName := ⟨R_Deci, "apply", "()I"⟩
abbrev b_Deci_mode : ByteArray := prog_1_method_6_code
def y_Deci_mode : MethodName := ⟨R_Deci, "mode", "(I)Z"⟩
abbrev b_Deci_setting : ByteArray := prog_1_method_7_code
def y_Deci_setting : MethodName := ⟨R_Deci, "setting", "(I)I"⟩
abbrev b_Deci_format : ByteArray := prog_1_method_8_code
def y_Deci_format : MethodName := ⟨R_Deci, "format", "(JI)I"⟩
abbrev b_Deci_print : ByteArray := prog_1_method_9_code
def y_Deci_print : MethodName := ⟨R_Deci, "print", "()I"⟩
abbrev b_Deci_out : ByteArray := prog_1_method_10_code
def y_Deci_out : MethodName := ⟨R_Deci, "out", "(I)I"⟩
abbrev b_Deci_field : ByteArray := prog_1_method_11_code
def y_Deci_field : MethodName := ⟨R_Deci, "field", "(IZ)I"⟩
abbrev b_Deci_copy : ByteArray := prog_1_method_12_code
def y_Deci_copy : MethodName := ⟨R_Deci, "copy", "()V"⟩
abbrev b_Deci_parse : ByteArray := prog_1_method_13_code
def y_Deci_parse : MethodName := ⟨R_Deci, "parse", "()Z"⟩
abbrev b_Deci_value : ByteArray := prog_1_method_14_code
def y_Deci_value : MethodName := ⟨R_Deci, "value", "()J"⟩
abbrev b_Deci_scale : ByteArray := prog_1_method_15_code
def y_Deci_scale : MethodName := ⟨R_Deci, "scale", "()I"⟩
abbrev b_Deci_tenTo : ByteArray := prog_1_method_16_code
def y_Deci_tenTo : MethodName := ⟨R_Deci, "tenTo", "(I)J"⟩
abbrev b_Deci_digitCount : ByteArray := prog_1_method_17_code
def y_Deci_digitCount : MethodName := ⟨R_Deci, "digitCount", "(J)I"⟩
abbrev b_Deci_isDigit : ByteArray := prog_1_method_18_code
def y_Deci_isDigit : MethodName := ⟨R_Deci, "isDigit", "(I)Z"⟩
abbrev b_Deci_isSpecial : ByteArray := prog_1_method_19_code
def y_Deci_isSpecial : MethodName := ⟨R_Deci, "isSpecial", "(I)Z"⟩
abbrev b_Model_init : ByteArray := prog_13_method_1_code
def y_Model_init : MethodName := ⟨R_Model, "<init>", "()V"⟩
abbrev b_Model_type : ByteArray := prog_13_method_2_code
def y_Model_type : MethodName := ⟨R_Model, "type", "(C)Z"⟩
abbrev b_Model_wipe : ByteArray := prog_13_method_3_code
def y_Model_wipe : MethodName := ⟨R_Model, "wipe", "()V"⟩
abbrev b_Model_length : ByteArray := prog_13_method_4_code
def y_Model_length : MethodName := ⟨R_Model, "length", "()I"⟩
abbrev b_Model_copy : ByteArray := prog_13_method_5_code
def y_Model_copy : MethodName := ⟨R_Model, "copy", "()V"⟩
abbrev b_Model_out : ByteArray := prog_13_method_6_code
def y_Model_out : MethodName := ⟨R_Model, "out", "(I)I"⟩
abbrev b_Model_is : ByteArray := prog_13_method_7_code
def y_Model_is : MethodName := ⟨R_Model, "is", "(IC)Z"⟩
abbrev b_Model_special : ByteArray := prog_13_method_8_code
def y_Model_special : MethodName := ⟨R_Model, "special", "(I)Z"⟩
abbrev b_Model_keep : ByteArray := prog_13_method_9_code
def y_Model_keep : MethodName := ⟨R_Model, "keep", "(II)V"⟩
abbrev b_Model_affix : ByteArray := prog_13_method_10_code
def y_Model_affix : MethodName := ⟨R_Model, "affix", "(I)V"⟩
abbrev b_Model_whole : ByteArray := prog_13_method_11_code
def y_Model_whole : MethodName := ⟨R_Model, "whole", "(Z)I"⟩
abbrev b_Model_fraction : ByteArray := prog_13_method_12_code
def y_Model_fraction : MethodName := ⟨R_Model, "fraction", "(Z)V"⟩
abbrev b_Model_exponent : ByteArray := prog_13_method_13_code
def y_Model_exponent : MethodName := ⟨R_Model, "exponent", "(Z)V"⟩
abbrev b_Model_number : ByteArray := prog_13_method_14_code
def y_Model_number : MethodName := ⟨R_Model, "number", "(Z)V"⟩
abbrev b_Model_part : ByteArray := prog_13_method_15_code
def y_Model_part : MethodName := ⟨R_Model, "part", "(I)V"⟩
abbrev b_Model_go : ByteArray := prog_13_method_16_code
def y_Model_go : MethodName := ⟨R_Model, "go", "(Z)V"⟩
abbrev b_Model_apply : ByteArray := prog_13_method_17_code
def y_Model_apply : MethodName := ⟨R_Model, "apply", "()I"⟩
abbrev b_Model_hasPercent : ByteArray := prog_13_method_18_code
def y_Model_hasPercent : MethodName := ⟨R_Model, "hasPercent", "(I)Z"⟩
abbrev b_Model_mode : ByteArray := prog_13_method_19_code
def y_Model_mode : MethodName := ⟨R_Model, "mode", "(I)Z"⟩
abbrev b_Model_setting : ByteArray := prog_13_method_20_code
def y_Model_setting : MethodName := ⟨R_Model, "setting", "(I)I"⟩
abbrev b_Model_borrowed : ByteArray := prog_13_method_21_code
def y_Model_borrowed : MethodName := ⟨R_Model, "borrowed", "(Z)Z"⟩
abbrev b_Model_shownLength : ByteArray := prog_13_method_22_code
def y_Model_shownLength : MethodName := ⟨R_Model, "shownLength", "(ZI)I"⟩
abbrev b_Model_shown : ByteArray := prog_13_method_23_code
def y_Model_shown : MethodName := ⟨R_Model, "shown", "(ZII)I"⟩
abbrev b_Model_write : ByteArray := prog_13_method_24_code
def y_Model_write : MethodName := ⟨R_Model, "write", "(I)V"⟩
abbrev b_Model_writeAffix : ByteArray := prog_13_method_25_code
def y_Model_writeAffix : MethodName := ⟨R_Model, "writeAffix", "(ZI)V"⟩
abbrev b_Model_lay : ByteArray := prog_13_method_26_code
def y_Model_lay : MethodName := ⟨R_Model, "lay", "(J)V"⟩
abbrev b_Model_rest : ByteArray := prog_13_method_27_code
def y_Model_rest : MethodName := ⟨R_Model, "rest", "(I)I"⟩
abbrev b_Model_away : ByteArray := prog_13_method_28_code
def y_Model_away : MethodName := ⟨R_Model, "away", "(IZZ)Z"⟩
abbrev b_Model_round : ByteArray := prog_13_method_29_code
def y_Model_round : MethodName := ⟨R_Model, "round", "(IZ)Z"⟩
abbrev b_Model_placed : ByteArray := prog_13_method_30_code
def y_Model_placed : MethodName := ⟨R_Model, "placed", "(I)I"⟩
abbrev b_Model_writeWhole : ByteArray := prog_13_method_31_code
def y_Model_writeWhole : MethodName := ⟨R_Model, "writeWhole", "(I)V"⟩
abbrev b_Model_fractions : ByteArray := prog_13_method_32_code
def y_Model_fractions : MethodName := ⟨R_Model, "fractions", "()I"⟩
abbrev b_Model_writeFraction : ByteArray := prog_13_method_33_code
def y_Model_writeFraction : MethodName := ⟨R_Model, "writeFraction", "(I)V"⟩
abbrev b_Model_writeExponent : ByteArray := prog_13_method_34_code
def y_Model_writeExponent : MethodName := ⟨R_Model, "writeExponent", "(I)V"⟩
abbrev b_Model_format : ByteArray := prog_13_method_35_code
def y_Model_format : MethodName := ⟨R_Model, "format", "(JI)I"⟩
abbrev b_Model_field : ByteArray := prog_13_method_36_code
def y_Model_field : MethodName := ⟨R_Model, "field", "(IZ)I"⟩
abbrev b_Model_printAffix : ByteArray := prog_13_method_37_code
def y_Model_printAffix : MethodName := ⟨R_Model, "printAffix", "(I)V"⟩
abbrev b_Model_many : ByteArray := prog_13_method_38_code
def y_Model_many : MethodName := ⟨R_Model, "many", "(IC)V"⟩
abbrev b_Model_printNumber : ByteArray := prog_13_method_39_code
def y_Model_printNumber : MethodName := ⟨R_Model, "printNumber", "()V"⟩
abbrev b_Model_like : ByteArray := prog_13_method_40_code
def y_Model_like : MethodName := ⟨R_Model, "like", "(III)Z"⟩
abbrev b_Model_print : ByteArray := prog_13_method_41_code
def y_Model_print : MethodName := ⟨R_Model, "print", "()I"⟩
abbrev b_Model_digitAt : ByteArray := prog_13_method_42_code
def y_Model_digitAt : MethodName := ⟨R_Model, "digitAt", "(II)Z"⟩
abbrev b_Model_body : ByteArray := prog_13_method_43_code
def y_Model_body : MethodName := ⟨R_Model, "body", "(II)Z"⟩
abbrev b_Model_ofSign : ByteArray := prog_13_method_44_code
def y_Model_ofSign : MethodName := ⟨R_Model, "ofSign", "(Z)Z"⟩
abbrev b_Model_parse : ByteArray := prog_13_method_45_code
def y_Model_parse : MethodName := ⟨R_Model, "parse", "()Z"⟩
abbrev b_Model_value : ByteArray := prog_13_method_46_code
def y_Model_value : MethodName := ⟨R_Model, "value", "()J"⟩
abbrev b_Model_scale : ByteArray := prog_13_method_47_code
def y_Model_scale : MethodName := ⟨R_Model, "scale", "()I"⟩
abbrev b_Long_compare : ByteArray := prog_14_method_42_code
def y_Long_compare : MethodName := ⟨R_Long, "compare", "(JJ)I"⟩
def BIG : List Cond := lw_tbl.filter goodWord
def NESTS : List Cond := lw_tbl.filter isNest
end
section
theorem d_Row_init_0 : decode b_Row_init 0 = .ok (.aload_n 0, 1) := by decide +kernel
theorem d_Row_init_1 : decode b_Row_init 1 = .ok (.invokespecial 3, 3) := by decide +kernel
theorem d_Row_init_4 : decode b_Row_init 4 = .ok (.aload_n 0, 1) := by decide +kernel
theorem d_Row_init_5 : decode b_Row_init 5 = .ok (.bipush 120, 2) := by decide +kernel
theorem d_Row_init_7 : decode b_Row_init 7 = .ok (.newarray .char, 2) := by decide +kernel
theorem d_Row_init_9 : decode b_Row_init 9 = .ok (.putfield 9, 3) := by decide +kernel
theorem d_Row_init_12 : decode b_Row_init 12 = .ok (.aload_n 0, 1) := by decide +kernel
theorem d_Row_init_13 : decode b_Row_init 13 = .ok (.iconst 0, 1) := by decide +kernel
theorem d_Row_init_14 : decode b_Row_init 14 = .ok (.putfield 15, 3) := by decide +kernel
theorem d_Row_init_17 : decode b_Row_init 17 = .ok (.return_, 1) := by decide +kernel
theorem d_Row_size_0 : decode b_Row_size 0 = .ok (.aload_n 0, 1) := by decide +kernel
theorem d_Row_size_1 : decode b_Row_size 1 = .ok (.getfield 15, 3) := by decide +kernel
theorem d_Row_size_4 : decode b_Row_size 4 = .ok (.ireturn, 1) := by decide +kernel
theorem d_Row_at_0 : decode b_Row_at 0 = .ok (.iload_n 1, 1) := by decide +kernel
theorem d_Row_at_1 : decode b_Row_at 1 = .ok (.ifCond .lt 20, 3) := by decide +kernel
theorem d_Row_at_4 : decode b_Row_at 4 = .ok (.iload_n 1, 1) := by decide +kernel
theorem d_Row_at_5 : decode b_Row_at 5 = .ok (.aload_n 0, 1) := by decide +kernel
theorem d_Row_at_6 : decode b_Row_at 6 = .ok (.getfield 15, 3) := by decide +kernel
theorem d_Row_at_9 : decode b_Row_at 9 = .ok (.if_icmp .ge 12, 3) := by decide +kernel
theorem d_Row_at_12 : decode b_Row_at 12 = .ok (.aload_n 0, 1) := by decide +kernel
theorem d_Row_at_13 : decode b_Row_at 13 = .ok (.getfield 9, 3) := by decide +kernel
theorem d_Row_at_16 : decode b_Row_at 16 = .ok (.iload_n 1, 1) := by decide +kernel
theorem d_Row_at_17 : decode b_Row_at 17 = .ok (.caload, 1) := by decide +kernel
theorem d_Row_at_18 : decode b_Row_at 18 = .ok (.goto 4, 3) := by decide +kernel
theorem d_Row_at_21 : decode b_Row_at 21 = .ok (.iconst (-1), 1) := by decide +kernel
theorem d_Row_at_22 : decode b_Row_at 22 = .ok (.ireturn, 1) := by decide +kernel
theorem d_Row_add_0 : decode b_Row_add 0 = .ok (.aload_n 0, 1) := by decide +kernel
theorem d_Row_add_1 : decode b_Row_add 1 = .ok (.getfield 15, 3) := by decide +kernel
theorem d_Row_add_4 : decode b_Row_add 4 = .ok (.aload_n 0, 1) := by decide +kernel
theorem d_Row_add_5 : decode b_Row_add 5 = .ok (.getfield 9, 3) := by decide +kernel
theorem d_Row_add_8 : decode b_Row_add 8 = .ok (.arraylength, 1) := by decide +kernel
theorem d_Row_add_9 : decode b_Row_add 9 = .ok (.if_icmp .lt 5, 3) := by decide +kernel
theorem d_Row_add_12 : decode b_Row_add 12 = .ok (.iconst 0, 1) := by decide +kernel
theorem d_Row_add_13 : decode b_Row_add 13 = .ok (.ireturn, 1) := by decide +kernel
theorem d_Row_add_14 : decode b_Row_add 14 = .ok (.aload_n 0, 1) := by decide +kernel
theorem d_Row_add_15 : decode b_Row_add 15 = .ok (.getfield 9, 3) := by decide +kernel
theorem d_Row_add_18 : decode b_Row_add 18 = .ok (.aload_n 0, 1) := by decide +kernel
theorem d_Row_add_19 : decode b_Row_add 19 = .ok (.getfield 15, 3) := by decide +kernel
theorem d_Row_add_22 : decode b_Row_add 22 = .ok (.iload_n 1, 1) := by decide +kernel
theorem d_Row_add_23 : decode b_Row_add 23 = .ok (.castore, 1) := by decide +kernel
theorem d_Row_add_24 : decode b_Row_add 24 = .ok (.aload_n 0, 1) := by decide +kernel
theorem d_Row_add_25 : decode b_Row_add 25 = .ok (.dup, 1) := by decide +kernel
theorem d_Row_add_26 : decode b_Row_add 26 = .ok (.getfield 15, 3) := by decide +kernel
theorem d_Row_add_29 : decode b_Row_add 29 = .ok (.iconst 1, 1) := by decide +kernel
theorem d_Row_add_30 : decode b_Row_add 30 = .ok (.iadd, 1) := by decide +kernel
theorem d_Row_add_31 : decode b_Row_add 31 = .ok (.putfield 15, 3) := by decide +kernel
theorem d_Row_add_34 : decode b_Row_add 34 = .ok (.iconst 1, 1) := by decide +kernel
theorem d_Row_add_35 : decode b_Row_add 35 = .ok (.ireturn, 1) := by decide +kernel
theorem d_Row_clear_0 : decode b_Row_clear 0 = .ok (.aload_n 0, 1) := by decide +kernel
theorem d_Row_clear_1 : decode b_Row_clear 1 = .ok (.iconst 0, 1) := by decide +kernel
theorem d_Row_clear_2 : decode b_Row_clear 2 = .ok (.putfield 15, 3) := by decide +kernel
theorem d_Row_clear_5 : decode b_Row_clear 5 = .ok (.return_, 1) := by decide +kernel
theorem d_Row_become_0 : decode b_Row_become 0 = .ok (.aload_n 1, 1) := by decide +kernel
theorem d_Row_become_1 : decode b_Row_become 1 = .ok (.getfield 9, 3) := by decide +kernel
theorem d_Row_become_4 : decode b_Row_become 4 = .ok (.iconst 0, 1) := by decide +kernel
theorem d_Row_become_5 : decode b_Row_become 5 = .ok (.aload_n 0, 1) := by decide +kernel
theorem d_Row_become_6 : decode b_Row_become 6 = .ok (.getfield 9, 3) := by decide +kernel
theorem d_Row_become_9 : decode b_Row_become 9 = .ok (.iconst 0, 1) := by decide +kernel
theorem d_Row_become_10 : decode b_Row_become 10 = .ok (.aload_n 1, 1) := by decide +kernel
theorem d_Row_become_11 : decode b_Row_become 11 = .ok (.getfield 15, 3) := by decide +kernel
theorem d_Row_become_14 : decode b_Row_become 14 = .ok (.invokestatic 19, 3) := by decide +kernel
theorem d_Row_become_17 : decode b_Row_become 17 = .ok (.aload_n 0, 1) := by decide +kernel
theorem d_Row_become_18 : decode b_Row_become 18 = .ok (.aload_n 1, 1) := by decide +kernel
theorem d_Row_become_19 : decode b_Row_become 19 = .ok (.getfield 15, 3) := by decide +kernel
theorem d_Row_become_22 : decode b_Row_become 22 = .ok (.putfield 15, 3) := by decide +kernel
theorem d_Row_become_25 : decode b_Row_become 25 = .ok (.return_, 1) := by decide +kernel
theorem d_Affix_init_0 : decode b_Affix_init 0 = .ok (.aload_n 0, 1) := by decide +kernel
theorem d_Affix_init_1 : decode b_Affix_init 1 = .ok (.invokespecial 3, 3) := by decide +kernel
theorem d_Affix_init_4 : decode b_Affix_init 4 = .ok (.aload_n 0, 1) := by decide +kernel
theorem d_Affix_init_5 : decode b_Affix_init 5 = .ok (.bipush 120, 2) := by decide +kernel
theorem d_Affix_init_7 : decode b_Affix_init 7 = .ok (.newarray .int, 2) := by decide +kernel
theorem d_Affix_init_9 : decode b_Affix_init 9 = .ok (.putfield 9, 3) := by decide +kernel
theorem d_Affix_init_12 : decode b_Affix_init 12 = .ok (.aload_n 0, 1) := by decide +kernel
theorem d_Affix_init_13 : decode b_Affix_init 13 = .ok (.iconst 0, 1) := by decide +kernel
theorem d_Affix_init_14 : decode b_Affix_init 14 = .ok (.putfield 15, 3) := by decide +kernel
theorem d_Affix_init_17 : decode b_Affix_init 17 = .ok (.return_, 1) := by decide +kernel
theorem d_Affix_size_0 : decode b_Affix_size 0 = .ok (.aload_n 0, 1) := by decide +kernel
theorem d_Affix_size_1 : decode b_Affix_size 1 = .ok (.getfield 15, 3) := by decide +kernel
theorem d_Affix_size_4 : decode b_Affix_size 4 = .ok (.ireturn, 1) := by decide +kernel
theorem d_Affix_at_0 : decode b_Affix_at 0 = .ok (.iload_n 1, 1) := by decide +kernel
theorem d_Affix_at_1 : decode b_Affix_at 1 = .ok (.ifCond .lt 20, 3) := by decide +kernel
theorem d_Affix_at_4 : decode b_Affix_at 4 = .ok (.iload_n 1, 1) := by decide +kernel
theorem d_Affix_at_5 : decode b_Affix_at 5 = .ok (.aload_n 0, 1) := by decide +kernel
theorem d_Affix_at_6 : decode b_Affix_at 6 = .ok (.getfield 15, 3) := by decide +kernel
theorem d_Affix_at_9 : decode b_Affix_at 9 = .ok (.if_icmp .ge 12, 3) := by decide +kernel
theorem d_Affix_at_12 : decode b_Affix_at 12 = .ok (.aload_n 0, 1) := by decide +kernel
theorem d_Affix_at_13 : decode b_Affix_at 13 = .ok (.getfield 9, 3) := by decide +kernel
theorem d_Affix_at_16 : decode b_Affix_at 16 = .ok (.iload_n 1, 1) := by decide +kernel
theorem d_Affix_at_17 : decode b_Affix_at 17 = .ok (.iaload, 1) := by decide +kernel
theorem d_Affix_at_18 : decode b_Affix_at 18 = .ok (.goto 4, 3) := by decide +kernel
theorem d_Affix_at_21 : decode b_Affix_at 21 = .ok (.iconst (-1), 1) := by decide +kernel
theorem d_Affix_at_22 : decode b_Affix_at 22 = .ok (.ireturn, 1) := by decide +kernel
theorem d_Affix_clear_0 : decode b_Affix_clear 0 = .ok (.aload_n 0, 1) := by decide +kernel
theorem d_Affix_clear_1 : decode b_Affix_clear 1 = .ok (.iconst 0, 1) := by decide +kernel
theorem d_Affix_clear_2 : decode b_Affix_clear 2 = .ok (.putfield 15, 3) := by decide +kernel
theorem d_Affix_clear_5 : decode b_Affix_clear 5 = .ok (.return_, 1) := by decide +kernel
theorem d_Affix_add_0 : decode b_Affix_add 0 = .ok (.aload_n 0, 1) := by decide +kernel
theorem d_Affix_add_1 : decode b_Affix_add 1 = .ok (.getfield 15, 3) := by decide +kernel
theorem d_Affix_add_4 : decode b_Affix_add 4 = .ok (.aload_n 0, 1) := by decide +kernel
theorem d_Affix_add_5 : decode b_Affix_add 5 = .ok (.getfield 9, 3) := by decide +kernel
theorem d_Affix_add_8 : decode b_Affix_add 8 = .ok (.arraylength, 1) := by decide +kernel
theorem d_Affix_add_9 : decode b_Affix_add 9 = .ok (.if_icmp .ge 23, 3) := by decide +kernel
theorem d_Affix_add_12 : decode b_Affix_add 12 = .ok (.aload_n 0, 1) := by decide +kernel
theorem d_Affix_add_13 : decode b_Affix_add 13 = .ok (.getfield 9, 3) := by decide +kernel
theorem d_Affix_add_16 : decode b_Affix_add 16 = .ok (.aload_n 0, 1) := by decide +kernel
theorem d_Affix_add_17 : decode b_Affix_add 17 = .ok (.getfield 15, 3) := by decide +kernel
theorem d_Affix_add_20 : decode b_Affix_add 20 = .ok (.iload_n 1, 1) := by decide +kernel
theorem d_Affix_add_21 : decode b_Affix_add 21 = .ok (.iastore, 1) := by decide +kernel
theorem d_Affix_add_22 : decode b_Affix_add 22 = .ok (.aload_n 0, 1) := by decide +kernel
theorem d_Affix_add_23 : decode b_Affix_add 23 = .ok (.dup, 1) := by decide +kernel
theorem d_Affix_add_24 : decode b_Affix_add 24 = .ok (.getfield 15, 3) := by decide +kernel
theorem d_Affix_add_27 : decode b_Affix_add 27 = .ok (.iconst 1, 1) := by decide +kernel
theorem d_Affix_add_28 : decode b_Affix_add 28 = .ok (.iadd, 1) := by decide +kernel
theorem d_Affix_add_29 : decode b_Affix_add 29 = .ok (.putfield 15, 3) := by decide +kernel
theorem d_Affix_add_32 : decode b_Affix_add 32 = .ok (.return_, 1) := by decide +kernel
theorem d_Affix_addAll_0 : decode b_Affix_addAll 0 = .ok (.iconst 0, 1) := by decide +kernel
theorem d_Affix_addAll_1 : decode b_Affix_addAll 1 = .ok (.istore_n 2, 1) := by decide +kernel
theorem d_Affix_addAll_2 : decode b_Affix_addAll 2 = .ok (.iload_n 2, 1) := by decide +kernel
theorem d_Affix_addAll_3 : decode b_Affix_addAll 3 = .ok (.aload_n 1, 1) := by decide +kernel
theorem d_Affix_addAll_4 : decode b_Affix_addAll 4 = .ok (.getfield 15, 3) := by decide +kernel
theorem d_Affix_addAll_7 : decode b_Affix_addAll 7 = .ok (.if_icmp .ge 18, 3) := by decide +kernel
theorem d_Affix_addAll_10 : decode b_Affix_addAll 10 = .ok (.aload_n 0, 1) := by decide +kernel
theorem d_Affix_addAll_11 : decode b_Affix_addAll 11 = .ok (.aload_n 1, 1) := by decide +kernel
theorem d_Affix_addAll_12 : decode b_Affix_addAll 12 = .ok (.iload_n 2, 1) := by decide +kernel
theorem d_Affix_addAll_13 : decode b_Affix_addAll 13 = .ok (.invokevirtual 19, 3) := by decide +kernel
theorem d_Affix_addAll_16 : decode b_Affix_addAll 16 = .ok (.invokevirtual 23, 3) := by decide +kernel
theorem d_Affix_addAll_19 : decode b_Affix_addAll 19 = .ok (.iinc 2 1, 3) := by decide +kernel
theorem d_Affix_addAll_22 : decode b_Affix_addAll 22 = .ok (.goto (-20), 3) := by decide +kernel
theorem d_Affix_addAll_25 : decode b_Affix_addAll 25 = .ok (.return_, 1) := by decide +kernel
theorem d_Affix_hasPercent_0 : decode b_Affix_hasPercent 0 = .ok (.iconst 0, 1) := by decide +kernel
theorem d_Affix_hasPercent_1 : decode b_Affix_hasPercent 1 = .ok (.istore_n 1, 1) := by decide +kernel
theorem d_Affix_hasPercent_2 : decode b_Affix_hasPercent 2 = .ok (.iload_n 1, 1) := by decide +kernel
theorem d_Affix_hasPercent_3 : decode b_Affix_hasPercent 3 = .ok (.aload_n 0, 1) := by decide +kernel
theorem d_Affix_hasPercent_4 : decode b_Affix_hasPercent 4 = .ok (.getfield 15, 3) := by decide +kernel
theorem d_Affix_hasPercent_7 : decode b_Affix_hasPercent 7 = .ok (.if_icmp .ge 23, 3) := by decide +kernel
theorem d_Affix_hasPercent_10 : decode b_Affix_hasPercent 10 = .ok (.aload_n 0, 1) := by decide +kernel
theorem d_Affix_hasPercent_11 : decode b_Affix_hasPercent 11 = .ok (.getfield 9, 3) := by decide +kernel
theorem d_Affix_hasPercent_14 : decode b_Affix_hasPercent 14 = .ok (.iload_n 1, 1) := by decide +kernel
theorem d_Affix_hasPercent_15 : decode b_Affix_hasPercent 15 = .ok (.iaload, 1) := by decide +kernel
theorem d_Affix_hasPercent_16 : decode b_Affix_hasPercent 16 = .ok (.sipush 256, 3) := by decide +kernel
theorem d_Affix_hasPercent_19 : decode b_Affix_hasPercent 19 = .ok (.if_icmp .ne 5, 3) := by decide +kernel
theorem d_Affix_hasPercent_22 : decode b_Affix_hasPercent 22 = .ok (.iconst 1, 1) := by decide +kernel
theorem d_Affix_hasPercent_23 : decode b_Affix_hasPercent 23 = .ok (.ireturn, 1) := by decide +kernel
theorem d_Affix_hasPercent_24 : decode b_Affix_hasPercent 24 = .ok (.iinc 1 1, 3) := by decide +kernel
theorem d_Affix_hasPercent_27 : decode b_Affix_hasPercent 27 = .ok (.goto (-25), 3) := by decide +kernel
theorem d_Affix_hasPercent_30 : decode b_Affix_hasPercent 30 = .ok (.iconst 0, 1) := by decide +kernel
theorem d_Affix_hasPercent_31 : decode b_Affix_hasPercent 31 = .ok (.ireturn, 1) := by decide +kernel
theorem d_Affix_endsAs_0 : decode b_Affix_endsAs 0 = .ok (.aload_n 0, 1) := by decide +kernel
theorem d_Affix_endsAs_1 : decode b_Affix_endsAs 1 = .ok (.getfield 15, 3) := by decide +kernel
theorem d_Affix_endsAs_4 : decode b_Affix_endsAs 4 = .ok (.iload_n 2, 1) := by decide +kernel
theorem d_Affix_endsAs_5 : decode b_Affix_endsAs 5 = .ok (.isub, 1) := by decide +kernel
theorem d_Affix_endsAs_6 : decode b_Affix_endsAs 6 = .ok (.aload_n 1, 1) := by decide +kernel
theorem d_Affix_endsAs_7 : decode b_Affix_endsAs 7 = .ok (.getfield 15, 3) := by decide +kernel
theorem d_Affix_endsAs_10 : decode b_Affix_endsAs 10 = .ok (.if_icmp .eq 5, 3) := by decide +kernel
theorem d_Affix_endsAs_13 : decode b_Affix_endsAs 13 = .ok (.iconst 0, 1) := by decide +kernel
theorem d_Affix_endsAs_14 : decode b_Affix_endsAs 14 = .ok (.ireturn, 1) := by decide +kernel
theorem d_Affix_endsAs_15 : decode b_Affix_endsAs 15 = .ok (.iconst 0, 1) := by decide +kernel
theorem d_Affix_endsAs_16 : decode b_Affix_endsAs 16 = .ok (.istore_n 3, 1) := by decide +kernel
theorem d_Affix_endsAs_17 : decode b_Affix_endsAs 17 = .ok (.iload_n 3, 1) := by decide +kernel
theorem d_Affix_endsAs_18 : decode b_Affix_endsAs 18 = .ok (.aload_n 1, 1) := by decide +kernel
theorem d_Affix_endsAs_19 : decode b_Affix_endsAs 19 = .ok (.getfield 15, 3) := by decide +kernel
theorem d_Affix_endsAs_22 : decode b_Affix_endsAs 22 = .ok (.if_icmp .ge 26, 3) := by decide +kernel
theorem d_Affix_endsAs_25 : decode b_Affix_endsAs 25 = .ok (.aload_n 0, 1) := by decide +kernel
theorem d_Affix_endsAs_26 : decode b_Affix_endsAs 26 = .ok (.iload_n 2, 1) := by decide +kernel
theorem d_Affix_endsAs_27 : decode b_Affix_endsAs 27 = .ok (.iload_n 3, 1) := by decide +kernel
theorem d_Affix_endsAs_28 : decode b_Affix_endsAs 28 = .ok (.iadd, 1) := by decide +kernel
theorem d_Affix_endsAs_29 : decode b_Affix_endsAs 29 = .ok (.invokevirtual 19, 3) := by decide +kernel
theorem d_Affix_endsAs_32 : decode b_Affix_endsAs 32 = .ok (.aload_n 1, 1) := by decide +kernel
theorem d_Affix_endsAs_33 : decode b_Affix_endsAs 33 = .ok (.iload_n 3, 1) := by decide +kernel
theorem d_Affix_endsAs_34 : decode b_Affix_endsAs 34 = .ok (.invokevirtual 19, 3) := by decide +kernel
theorem d_Affix_endsAs_37 : decode b_Affix_endsAs 37 = .ok (.if_icmp .eq 5, 3) := by decide +kernel
theorem d_Affix_endsAs_40 : decode b_Affix_endsAs 40 = .ok (.iconst 0, 1) := by decide +kernel
theorem d_Affix_endsAs_41 : decode b_Affix_endsAs 41 = .ok (.ireturn, 1) := by decide +kernel
theorem d_Affix_endsAs_42 : decode b_Affix_endsAs 42 = .ok (.iinc 3 1, 3) := by decide +kernel
theorem d_Affix_endsAs_45 : decode b_Affix_endsAs 45 = .ok (.goto (-28), 3) := by decide +kernel
theorem d_Affix_endsAs_48 : decode b_Affix_endsAs 48 = .ok (.iconst 1, 1) := by decide +kernel
theorem d_Affix_endsAs_49 : decode b_Affix_endsAs 49 = .ok (.ireturn, 1) := by decide +kernel
theorem d_Affix_shownAt_0 : decode b_Affix_shownAt 0 = .ok (.aload_n 0, 1) := by decide +kernel
theorem d_Affix_shownAt_1 : decode b_Affix_shownAt 1 = .ok (.iload_n 1, 1) := by decide +kernel
theorem d_Affix_shownAt_2 : decode b_Affix_shownAt 2 = .ok (.invokevirtual 19, 3) := by decide +kernel
theorem d_Affix_shownAt_5 : decode b_Affix_shownAt 5 = .ok (.istore_n 2, 1) := by decide +kernel
theorem d_Affix_shownAt_6 : decode b_Affix_shownAt 6 = .ok (.iload_n 2, 1) := by decide +kernel
theorem d_Affix_shownAt_7 : decode b_Affix_shownAt 7 = .ok (.sipush 256, 3) := by decide +kernel
theorem d_Affix_shownAt_10 : decode b_Affix_shownAt 10 = .ok (.if_icmp .ne 8, 3) := by decide +kernel
theorem d_Affix_shownAt_13 : decode b_Affix_shownAt 13 = .ok (.bipush 37, 2) := by decide +kernel
theorem d_Affix_shownAt_15 : decode b_Affix_shownAt 15 = .ok (.goto 4, 3) := by decide +kernel
theorem d_Affix_shownAt_18 : decode b_Affix_shownAt 18 = .ok (.iload_n 2, 1) := by decide +kernel
theorem d_Affix_shownAt_19 : decode b_Affix_shownAt 19 = .ok (.ireturn, 1) := by decide +kernel
theorem d_Affix_show_0 : decode b_Affix_show 0 = .ok (.iconst 0, 1) := by decide +kernel
theorem d_Affix_show_1 : decode b_Affix_show 1 = .ok (.istore_n 2, 1) := by decide +kernel
theorem d_Affix_show_2 : decode b_Affix_show 2 = .ok (.iload_n 2, 1) := by decide +kernel
theorem d_Affix_show_3 : decode b_Affix_show 3 = .ok (.aload_n 0, 1) := by decide +kernel
theorem d_Affix_show_4 : decode b_Affix_show 4 = .ok (.getfield 15, 3) := by decide +kernel
theorem d_Affix_show_7 : decode b_Affix_show 7 = .ok (.if_icmp .ge 20, 3) := by decide +kernel
theorem d_Affix_show_10 : decode b_Affix_show 10 = .ok (.aload_n 1, 1) := by decide +kernel
theorem d_Affix_show_11 : decode b_Affix_show 11 = .ok (.aload_n 0, 1) := by decide +kernel
theorem d_Affix_show_12 : decode b_Affix_show 12 = .ok (.iload_n 2, 1) := by decide +kernel
theorem d_Affix_show_13 : decode b_Affix_show 13 = .ok (.invokevirtual 27, 3) := by decide +kernel
theorem d_Affix_show_16 : decode b_Affix_show 16 = .ok (.i2c, 1) := by decide +kernel
theorem d_Affix_show_17 : decode b_Affix_show 17 = .ok (.invokevirtual 30, 3) := by decide +kernel
theorem d_Affix_show_20 : decode b_Affix_show 20 = .ok (.pop, 1) := by decide +kernel
theorem d_Affix_show_21 : decode b_Affix_show 21 = .ok (.iinc 2 1, 3) := by decide +kernel
theorem d_Affix_show_24 : decode b_Affix_show 24 = .ok (.goto (-22), 3) := by decide +kernel
theorem d_Affix_show_27 : decode b_Affix_show 27 = .ok (.return_, 1) := by decide +kernel
theorem d_Affix_standsIn_0 : decode b_Affix_standsIn 0 = .ok (.iconst 0, 1) := by decide +kernel
theorem d_Affix_standsIn_1 : decode b_Affix_standsIn 1 = .ok (.istore_n 3, 1) := by decide +kernel
theorem d_Affix_standsIn_2 : decode b_Affix_standsIn 2 = .ok (.iload_n 3, 1) := by decide +kernel
theorem d_Affix_standsIn_3 : decode b_Affix_standsIn 3 = .ok (.aload_n 0, 1) := by decide +kernel
theorem d_Affix_standsIn_4 : decode b_Affix_standsIn 4 = .ok (.getfield 15, 3) := by decide +kernel
theorem d_Affix_standsIn_7 : decode b_Affix_standsIn 7 = .ok (.if_icmp .ge 26, 3) := by decide +kernel
theorem d_Affix_standsIn_10 : decode b_Affix_standsIn 10 = .ok (.aload_n 1, 1) := by decide +kernel
theorem d_Affix_standsIn_11 : decode b_Affix_standsIn 11 = .ok (.iload_n 2, 1) := by decide +kernel
theorem d_Affix_standsIn_12 : decode b_Affix_standsIn 12 = .ok (.iload_n 3, 1) := by decide +kernel
theorem d_Affix_standsIn_13 : decode b_Affix_standsIn 13 = .ok (.iadd, 1) := by decide +kernel
theorem d_Affix_standsIn_14 : decode b_Affix_standsIn 14 = .ok (.invokevirtual 35, 3) := by decide +kernel
theorem d_Affix_standsIn_17 : decode b_Affix_standsIn 17 = .ok (.aload_n 0, 1) := by decide +kernel
theorem d_Affix_standsIn_18 : decode b_Affix_standsIn 18 = .ok (.iload_n 3, 1) := by decide +kernel
theorem d_Affix_standsIn_19 : decode b_Affix_standsIn 19 = .ok (.invokevirtual 27, 3) := by decide +kernel
theorem d_Affix_standsIn_22 : decode b_Affix_standsIn 22 = .ok (.if_icmp .eq 5, 3) := by decide +kernel
theorem d_Affix_standsIn_25 : decode b_Affix_standsIn 25 = .ok (.iconst 0, 1) := by decide +kernel
theorem d_Affix_standsIn_26 : decode b_Affix_standsIn 26 = .ok (.ireturn, 1) := by decide +kernel
theorem d_Affix_standsIn_27 : decode b_Affix_standsIn 27 = .ok (.iinc 3 1, 3) := by decide +kernel
theorem d_Affix_standsIn_30 : decode b_Affix_standsIn 30 = .ok (.goto (-28), 3) := by decide +kernel
theorem d_Affix_standsIn_33 : decode b_Affix_standsIn 33 = .ok (.iconst 1, 1) := by decide +kernel
theorem d_Affix_standsIn_34 : decode b_Affix_standsIn 34 = .ok (.ireturn, 1) := by decide +kernel
theorem d_Shape_init_0 : decode b_Shape_init 0 = .ok (.aload_n 0, 1) := by decide +kernel
theorem d_Shape_init_1 : decode b_Shape_init 1 = .ok (.invokespecial 1, 3) := by decide +kernel
theorem d_Shape_init_4 : decode b_Shape_init 4 = .ok (.aload_n 0, 1) := by decide +kernel
theorem d_Shape_init_5 : decode b_Shape_init 5 = .ok (.invokevirtual 7, 3) := by decide +kernel
theorem d_Shape_init_8 : decode b_Shape_init 8 = .ok (.return_, 1) := by decide +kernel
theorem d_Shape_clear_0 : decode b_Shape_clear 0 = .ok (.aload_n 0, 1) := by decide +kernel
theorem d_Shape_clear_1 : decode b_Shape_clear 1 = .ok (.iconst 0, 1) := by decide +kernel
theorem d_Shape_clear_2 : decode b_Shape_clear 2 = .ok (.putfield 12, 3) := by decide +kernel
theorem d_Shape_clear_5 : decode b_Shape_clear 5 = .ok (.aload_n 0, 1) := by decide +kernel
theorem d_Shape_clear_6 : decode b_Shape_clear 6 = .ok (.iconst 0, 1) := by decide +kernel
theorem d_Shape_clear_7 : decode b_Shape_clear 7 = .ok (.putfield 16, 3) := by decide +kernel
theorem d_Shape_clear_10 : decode b_Shape_clear 10 = .ok (.aload_n 0, 1) := by decide +kernel
theorem d_Shape_clear_11 : decode b_Shape_clear 11 = .ok (.iconst 0, 1) := by decide +kernel
theorem d_Shape_clear_12 : decode b_Shape_clear 12 = .ok (.putfield 19, 3) := by decide +kernel
theorem d_Shape_clear_15 : decode b_Shape_clear 15 = .ok (.aload_n 0, 1) := by decide +kernel
theorem d_Shape_clear_16 : decode b_Shape_clear 16 = .ok (.iconst 0, 1) := by decide +kernel
theorem d_Shape_clear_17 : decode b_Shape_clear 17 = .ok (.putfield 22, 3) := by decide +kernel
theorem d_Shape_clear_20 : decode b_Shape_clear 20 = .ok (.aload_n 0, 1) := by decide +kernel
theorem d_Shape_clear_21 : decode b_Shape_clear 21 = .ok (.iconst 0, 1) := by decide +kernel
theorem d_Shape_clear_22 : decode b_Shape_clear 22 = .ok (.putfield 25, 3) := by decide +kernel
theorem d_Shape_clear_25 : decode b_Shape_clear 25 = .ok (.aload_n 0, 1) := by decide +kernel
theorem d_Shape_clear_26 : decode b_Shape_clear 26 = .ok (.iconst 0, 1) := by decide +kernel
theorem d_Shape_clear_27 : decode b_Shape_clear 27 = .ok (.putfield 29, 3) := by decide +kernel
theorem d_Shape_clear_30 : decode b_Shape_clear 30 = .ok (.aload_n 0, 1) := by decide +kernel
theorem d_Shape_clear_31 : decode b_Shape_clear 31 = .ok (.iconst 0, 1) := by decide +kernel
theorem d_Shape_clear_32 : decode b_Shape_clear 32 = .ok (.putfield 32, 3) := by decide +kernel
theorem d_Shape_clear_35 : decode b_Shape_clear 35 = .ok (.return_, 1) := by decide +kernel
theorem d_Shape_startGroup_0 : decode b_Shape_startGroup 0 = .ok (.aload_n 0, 1) := by decide +kernel
theorem d_Shape_startGroup_1 : decode b_Shape_startGroup 1 = .ok (.iconst 1, 1) := by decide +kernel
theorem d_Shape_startGroup_2 : decode b_Shape_startGroup 2 = .ok (.putfield 25, 3) := by decide +kernel
theorem d_Shape_startGroup_5 : decode b_Shape_startGroup 5 = .ok (.aload_n 0, 1) := by decide +kernel
theorem d_Shape_startGroup_6 : decode b_Shape_startGroup 6 = .ok (.iconst 0, 1) := by decide +kernel
theorem d_Shape_startGroup_7 : decode b_Shape_startGroup 7 = .ok (.putfield 29, 3) := by decide +kernel
theorem d_Shape_startGroup_10 : decode b_Shape_startGroup 10 = .ok (.return_, 1) := by decide +kernel
theorem d_Shape_takeInteger_0 : decode b_Shape_takeInteger 0 = .ok (.iload_n 1, 1) := by decide +kernel
theorem d_Shape_takeInteger_1 : decode b_Shape_takeInteger 1 = .ok (.bipush 35, 2) := by decide +kernel
theorem d_Shape_takeInteger_3 : decode b_Shape_takeInteger 3 = .ok (.if_icmp .ne 23, 3) := by decide +kernel
theorem d_Shape_takeInteger_6 : decode b_Shape_takeInteger 6 = .ok (.aload_n 0, 1) := by decide +kernel
theorem d_Shape_takeInteger_7 : decode b_Shape_takeInteger 7 = .ok (.getfield 16, 3) := by decide +kernel
theorem d_Shape_takeInteger_10 : decode b_Shape_takeInteger 10 = .ok (.ifCond .ne 16, 3) := by decide +kernel
theorem d_Shape_takeInteger_13 : decode b_Shape_takeInteger 13 = .ok (.aload_n 0, 1) := by decide +kernel
theorem d_Shape_takeInteger_14 : decode b_Shape_takeInteger 14 = .ok (.dup, 1) := by decide +kernel
theorem d_Shape_takeInteger_15 : decode b_Shape_takeInteger 15 = .ok (.getfield 12, 3) := by decide +kernel
theorem d_Shape_takeInteger_18 : decode b_Shape_takeInteger 18 = .ok (.iconst 1, 1) := by decide +kernel
theorem d_Shape_takeInteger_19 : decode b_Shape_takeInteger 19 = .ok (.iadd, 1) := by decide +kernel
theorem d_Shape_takeInteger_20 : decode b_Shape_takeInteger 20 = .ok (.putfield 12, 3) := by decide +kernel
theorem d_Shape_takeInteger_23 : decode b_Shape_takeInteger 23 = .ok (.goto 24, 3) := by decide +kernel
theorem d_Shape_takeInteger_26 : decode b_Shape_takeInteger 26 = .ok (.iload_n 1, 1) := by decide +kernel
theorem d_Shape_takeInteger_27 : decode b_Shape_takeInteger 27 = .ok (.bipush 48, 2) := by decide +kernel
theorem d_Shape_takeInteger_29 : decode b_Shape_takeInteger 29 = .ok (.if_icmp .ne 16, 3) := by decide +kernel
theorem d_Shape_takeInteger_32 : decode b_Shape_takeInteger 32 = .ok (.aload_n 0, 1) := by decide +kernel
theorem d_Shape_takeInteger_33 : decode b_Shape_takeInteger 33 = .ok (.dup, 1) := by decide +kernel
theorem d_Shape_takeInteger_34 : decode b_Shape_takeInteger 34 = .ok (.getfield 16, 3) := by decide +kernel
theorem d_Shape_takeInteger_37 : decode b_Shape_takeInteger 37 = .ok (.iconst 1, 1) := by decide +kernel
theorem d_Shape_takeInteger_38 : decode b_Shape_takeInteger 38 = .ok (.iadd, 1) := by decide +kernel
theorem d_Shape_takeInteger_39 : decode b_Shape_takeInteger 39 = .ok (.putfield 16, 3) := by decide +kernel
theorem d_Shape_takeInteger_42 : decode b_Shape_takeInteger 42 = .ok (.goto 5, 3) := by decide +kernel
theorem d_Shape_takeInteger_45 : decode b_Shape_takeInteger 45 = .ok (.iconst 0, 1) := by decide +kernel
theorem d_Shape_takeInteger_46 : decode b_Shape_takeInteger 46 = .ok (.ireturn, 1) := by decide +kernel
theorem d_Shape_takeInteger_47 : decode b_Shape_takeInteger 47 = .ok (.aload_n 0, 1) := by decide +kernel
theorem d_Shape_takeInteger_48 : decode b_Shape_takeInteger 48 = .ok (.getfield 25, 3) := by decide +kernel
theorem d_Shape_takeInteger_51 : decode b_Shape_takeInteger 51 = .ok (.ifCond .eq 13, 3) := by decide +kernel
theorem d_Shape_takeInteger_54 : decode b_Shape_takeInteger 54 = .ok (.aload_n 0, 1) := by decide +kernel
theorem d_Shape_takeInteger_55 : decode b_Shape_takeInteger 55 = .ok (.dup, 1) := by decide +kernel
theorem d_Shape_takeInteger_56 : decode b_Shape_takeInteger 56 = .ok (.getfield 29, 3) := by decide +kernel
theorem d_Shape_takeInteger_59 : decode b_Shape_takeInteger 59 = .ok (.iconst 1, 1) := by decide +kernel
theorem d_Shape_takeInteger_60 : decode b_Shape_takeInteger 60 = .ok (.iadd, 1) := by decide +kernel
theorem d_Shape_takeInteger_61 : decode b_Shape_takeInteger 61 = .ok (.putfield 29, 3) := by decide +kernel
theorem d_Shape_takeInteger_64 : decode b_Shape_takeInteger 64 = .ok (.iconst 1, 1) := by decide +kernel
theorem d_Shape_takeInteger_65 : decode b_Shape_takeInteger 65 = .ok (.ireturn, 1) := by decide +kernel
theorem d_Shape_takeFraction_0 : decode b_Shape_takeFraction 0 = .ok (.iload_n 1, 1) := by decide +kernel
theorem d_Shape_takeFraction_1 : decode b_Shape_takeFraction 1 = .ok (.bipush 48, 2) := by decide +kernel
theorem d_Shape_takeFraction_3 : decode b_Shape_takeFraction 3 = .ok (.if_icmp .ne 27, 3) := by decide +kernel
theorem d_Shape_takeFraction_6 : decode b_Shape_takeFraction 6 = .ok (.aload_n 0, 1) := by decide +kernel
theorem d_Shape_takeFraction_7 : decode b_Shape_takeFraction 7 = .ok (.getfield 22, 3) := by decide +kernel
theorem d_Shape_takeFraction_10 : decode b_Shape_takeFraction 10 = .ok (.aload_n 0, 1) := by decide +kernel
theorem d_Shape_takeFraction_11 : decode b_Shape_takeFraction 11 = .ok (.getfield 19, 3) := by decide +kernel
theorem d_Shape_takeFraction_14 : decode b_Shape_takeFraction 14 = .ok (.if_icmp .ne 16, 3) := by decide +kernel
theorem d_Shape_takeFraction_17 : decode b_Shape_takeFraction 17 = .ok (.aload_n 0, 1) := by decide +kernel
theorem d_Shape_takeFraction_18 : decode b_Shape_takeFraction 18 = .ok (.dup, 1) := by decide +kernel
theorem d_Shape_takeFraction_19 : decode b_Shape_takeFraction 19 = .ok (.getfield 19, 3) := by decide +kernel
theorem d_Shape_takeFraction_22 : decode b_Shape_takeFraction 22 = .ok (.iconst 1, 1) := by decide +kernel
theorem d_Shape_takeFraction_23 : decode b_Shape_takeFraction 23 = .ok (.iadd, 1) := by decide +kernel
theorem d_Shape_takeFraction_24 : decode b_Shape_takeFraction 24 = .ok (.putfield 19, 3) := by decide +kernel
theorem d_Shape_takeFraction_27 : decode b_Shape_takeFraction 27 = .ok (.goto 11, 3) := by decide +kernel
theorem d_Shape_takeFraction_30 : decode b_Shape_takeFraction 30 = .ok (.iload_n 1, 1) := by decide +kernel
theorem d_Shape_takeFraction_31 : decode b_Shape_takeFraction 31 = .ok (.bipush 35, 2) := by decide +kernel
theorem d_Shape_takeFraction_33 : decode b_Shape_takeFraction 33 = .ok (.if_icmp .eq 5, 3) := by decide +kernel
theorem d_Shape_takeFraction_36 : decode b_Shape_takeFraction 36 = .ok (.iconst 0, 1) := by decide +kernel
theorem d_Shape_takeFraction_37 : decode b_Shape_takeFraction 37 = .ok (.ireturn, 1) := by decide +kernel
theorem d_Shape_takeFraction_38 : decode b_Shape_takeFraction 38 = .ok (.aload_n 0, 1) := by decide +kernel
theorem d_Shape_takeFraction_39 : decode b_Shape_takeFraction 39 = .ok (.dup, 1) := by decide +kernel
theorem d_Shape_takeFraction_40 : decode b_Shape_takeFraction 40 = .ok (.getfield 22, 3) := by decide +kernel
theorem d_Shape_takeFraction_43 : decode b_Shape_takeFraction 43 = .ok (.iconst 1, 1) := by decide +kernel
theorem d_Shape_takeFraction_44 : decode b_Shape_takeFraction 44 = .ok (.iadd, 1) := by decide +kernel
theorem d_Shape_takeFraction_45 : decode b_Shape_takeFraction 45 = .ok (.putfield 22, 3) := by decide +kernel
theorem d_Shape_takeFraction_48 : decode b_Shape_takeFraction 48 = .ok (.iconst 1, 1) := by decide +kernel
theorem d_Shape_takeFraction_49 : decode b_Shape_takeFraction 49 = .ok (.ireturn, 1) := by decide +kernel
theorem d_Shape_allowsExponent_0 : decode b_Shape_allowsExponent 0 = .ok (.aload_n 0, 1) := by decide +kernel
theorem d_Shape_allowsExponent_1 : decode b_Shape_allowsExponent 1 = .ok (.getfield 12, 3) := by decide +kernel
theorem d_Shape_allowsExponent_4 : decode b_Shape_allowsExponent 4 = .ok (.ifCond .ne 14, 3) := by decide +kernel
theorem d_Shape_allowsExponent_7 : decode b_Shape_allowsExponent 7 = .ok (.aload_n 0, 1) := by decide +kernel
theorem d_Shape_allowsExponent_8 : decode b_Shape_allowsExponent 8 = .ok (.getfield 25, 3) := by decide +kernel
theorem d_Shape_allowsExponent_11 : decode b_Shape_allowsExponent 11 = .ok (.ifCond .ne 7, 3) := by decide +kernel
theorem d_Shape_allowsExponent_14 : decode b_Shape_allowsExponent 14 = .ok (.iconst 1, 1) := by decide +kernel
theorem d_Shape_allowsExponent_15 : decode b_Shape_allowsExponent 15 = .ok (.goto 4, 3) := by decide +kernel
theorem d_Shape_allowsExponent_18 : decode b_Shape_allowsExponent 18 = .ok (.iconst 0, 1) := by decide +kernel
theorem d_Shape_allowsExponent_19 : decode b_Shape_allowsExponent 19 = .ok (.ireturn, 1) := by decide +kernel
theorem d_Part_init_0 : decode b_Part_init 0 = .ok (.aload_n 0, 1) := by decide +kernel
theorem d_Part_init_1 : decode b_Part_init 1 = .ok (.invokespecial 1, 3) := by decide +kernel
theorem d_Part_init_4 : decode b_Part_init 4 = .ok (.aload_n 0, 1) := by decide +kernel
theorem d_Part_init_5 : decode b_Part_init 5 = .ok (.new 7, 3) := by decide +kernel
theorem d_Part_init_8 : decode b_Part_init 8 = .ok (.dup, 1) := by decide +kernel
theorem d_Part_init_9 : decode b_Part_init 9 = .ok (.invokespecial 9, 3) := by decide +kernel
theorem d_Part_init_12 : decode b_Part_init 12 = .ok (.putfield 10, 3) := by decide +kernel
theorem d_Part_init_15 : decode b_Part_init 15 = .ok (.aload_n 0, 1) := by decide +kernel
theorem d_Part_init_16 : decode b_Part_init 16 = .ok (.new 16, 3) := by decide +kernel
theorem d_Part_init_19 : decode b_Part_init 19 = .ok (.dup, 1) := by decide +kernel
theorem d_Part_init_20 : decode b_Part_init 20 = .ok (.invokespecial 18, 3) := by decide +kernel
theorem d_Part_init_23 : decode b_Part_init 23 = .ok (.putfield 19, 3) := by decide +kernel
theorem d_Part_init_26 : decode b_Part_init 26 = .ok (.aload_n 0, 1) := by decide +kernel
theorem d_Part_init_27 : decode b_Part_init 27 = .ok (.new 7, 3) := by decide +kernel
theorem d_Part_init_30 : decode b_Part_init 30 = .ok (.dup, 1) := by decide +kernel
theorem d_Part_init_31 : decode b_Part_init 31 = .ok (.invokespecial 9, 3) := by decide +kernel
theorem d_Part_init_34 : decode b_Part_init 34 = .ok (.putfield 23, 3) := by decide +kernel
theorem d_Part_init_37 : decode b_Part_init 37 = .ok (.return_, 1) := by decide +kernel
theorem d_Pattern_init_0 : decode b_Pattern_init 0 = .ok (.aload_n 0, 1) := by decide +kernel
theorem d_Pattern_init_1 : decode b_Pattern_init 1 = .ok (.invokespecial 1, 3) := by decide +kernel
theorem d_Pattern_init_4 : decode b_Pattern_init 4 = .ok (.aload_n 0, 1) := by decide +kernel
theorem d_Pattern_init_5 : decode b_Pattern_init 5 = .ok (.new 7, 3) := by decide +kernel
theorem d_Pattern_init_8 : decode b_Pattern_init 8 = .ok (.dup, 1) := by decide +kernel
theorem d_Pattern_init_9 : decode b_Pattern_init 9 = .ok (.invokespecial 9, 3) := by decide +kernel
theorem d_Pattern_init_12 : decode b_Pattern_init 12 = .ok (.putfield 10, 3) := by decide +kernel
theorem d_Pattern_init_15 : decode b_Pattern_init 15 = .ok (.aload_n 0, 1) := by decide +kernel
theorem d_Pattern_init_16 : decode b_Pattern_init 16 = .ok (.new 7, 3) := by decide +kernel
theorem d_Pattern_init_19 : decode b_Pattern_init 19 = .ok (.dup, 1) := by decide +kernel
theorem d_Pattern_init_20 : decode b_Pattern_init 20 = .ok (.invokespecial 9, 3) := by decide +kernel
theorem d_Pattern_init_23 : decode b_Pattern_init 23 = .ok (.putfield 16, 3) := by decide +kernel
theorem d_Pattern_init_26 : decode b_Pattern_init 26 = .ok (.aload_n 0, 1) := by decide +kernel
theorem d_Pattern_init_27 : decode b_Pattern_init 27 = .ok (.iconst 0, 1) := by decide +kernel
theorem d_Pattern_init_28 : decode b_Pattern_init 28 = .ok (.putfield 19, 3) := by decide +kernel
theorem d_Pattern_init_31 : decode b_Pattern_init 31 = .ok (.aload_n 0, 1) := by decide +kernel
theorem d_Pattern_init_32 : decode b_Pattern_init 32 = .ok (.iconst 0, 1) := by decide +kernel
theorem d_Pattern_init_33 : decode b_Pattern_init 33 = .ok (.putfield 23, 3) := by decide +kernel
theorem d_Pattern_init_36 : decode b_Pattern_init 36 = .ok (.return_, 1) := by decide +kernel
theorem d_Pattern_complete_0 : decode b_Pattern_complete 0 = .ok (.aload_n 0, 1) := by decide +kernel
theorem d_Pattern_complete_1 : decode b_Pattern_complete 1 = .ok (.aload_n 0, 1) := by decide +kernel
theorem d_Pattern_complete_2 : decode b_Pattern_complete 2 = .ok (.getfield 10, 3) := by decide +kernel
theorem d_Pattern_complete_5 : decode b_Pattern_complete 5 = .ok (.getfield 26, 3) := by decide +kernel
theorem d_Pattern_complete_8 : decode b_Pattern_complete 8 = .ok (.invokevirtual 30, 3) := by decide +kernel
theorem d_Pattern_complete_11 : decode b_Pattern_complete 11 = .ok (.ifCond .ne 16, 3) := by decide +kernel
theorem d_Pattern_complete_14 : decode b_Pattern_complete 14 = .ok (.aload_n 0, 1) := by decide +kernel
theorem d_Pattern_complete_15 : decode b_Pattern_complete 15 = .ok (.getfield 10, 3) := by decide +kernel
theorem d_Pattern_complete_18 : decode b_Pattern_complete 18 = .ok (.getfield 35, 3) := by decide +kernel
theorem d_Pattern_complete_21 : decode b_Pattern_complete 21 = .ok (.invokevirtual 30, 3) := by decide +kernel
theorem d_Pattern_complete_24 : decode b_Pattern_complete 24 = .ok (.ifCond .eq 7, 3) := by decide +kernel
theorem d_Pattern_complete_27 : decode b_Pattern_complete 27 = .ok (.iconst 1, 1) := by decide +kernel
theorem d_Pattern_complete_28 : decode b_Pattern_complete 28 = .ok (.goto 4, 3) := by decide +kernel
theorem d_Pattern_complete_31 : decode b_Pattern_complete 31 = .ok (.iconst 0, 1) := by decide +kernel
theorem d_Pattern_complete_32 : decode b_Pattern_complete 32 = .ok (.putfield 23, 3) := by decide +kernel
theorem d_Pattern_complete_35 : decode b_Pattern_complete 35 = .ok (.aload_n 0, 1) := by decide +kernel
theorem d_Pattern_complete_36 : decode b_Pattern_complete 36 = .ok (.getfield 19, 3) := by decide +kernel
theorem d_Pattern_complete_39 : decode b_Pattern_complete 39 = .ok (.ifCond .ne 69, 3) := by decide +kernel
theorem d_Pattern_complete_42 : decode b_Pattern_complete 42 = .ok (.aload_n 0, 1) := by decide +kernel
theorem d_Pattern_complete_43 : decode b_Pattern_complete 43 = .ok (.getfield 16, 3) := by decide +kernel
theorem d_Pattern_complete_46 : decode b_Pattern_complete 46 = .ok (.getfield 26, 3) := by decide +kernel
theorem d_Pattern_complete_49 : decode b_Pattern_complete 49 = .ok (.invokevirtual 38, 3) := by decide +kernel
theorem d_Pattern_complete_52 : decode b_Pattern_complete 52 = .ok (.aload_n 0, 1) := by decide +kernel
theorem d_Pattern_complete_53 : decode b_Pattern_complete 53 = .ok (.getfield 16, 3) := by decide +kernel
theorem d_Pattern_complete_56 : decode b_Pattern_complete 56 = .ok (.getfield 26, 3) := by decide +kernel
theorem d_Pattern_complete_59 : decode b_Pattern_complete 59 = .ok (.bipush 45, 2) := by decide +kernel
theorem d_Pattern_complete_61 : decode b_Pattern_complete 61 = .ok (.invokevirtual 41, 3) := by decide +kernel
theorem d_Pattern_complete_64 : decode b_Pattern_complete 64 = .ok (.aload_n 0, 1) := by decide +kernel
theorem d_Pattern_complete_65 : decode b_Pattern_complete 65 = .ok (.getfield 16, 3) := by decide +kernel
theorem d_Pattern_complete_68 : decode b_Pattern_complete 68 = .ok (.getfield 26, 3) := by decide +kernel
theorem d_Pattern_complete_71 : decode b_Pattern_complete 71 = .ok (.aload_n 0, 1) := by decide +kernel
theorem d_Pattern_complete_72 : decode b_Pattern_complete 72 = .ok (.getfield 10, 3) := by decide +kernel
theorem d_Pattern_complete_75 : decode b_Pattern_complete 75 = .ok (.getfield 26, 3) := by decide +kernel
theorem d_Pattern_complete_78 : decode b_Pattern_complete 78 = .ok (.invokevirtual 45, 3) := by decide +kernel
theorem d_Pattern_complete_81 : decode b_Pattern_complete 81 = .ok (.aload_n 0, 1) := by decide +kernel
theorem d_Pattern_complete_82 : decode b_Pattern_complete 82 = .ok (.getfield 16, 3) := by decide +kernel
theorem d_Pattern_complete_85 : decode b_Pattern_complete 85 = .ok (.getfield 35, 3) := by decide +kernel
theorem d_Pattern_complete_88 : decode b_Pattern_complete 88 = .ok (.invokevirtual 38, 3) := by decide +kernel
theorem d_Pattern_complete_91 : decode b_Pattern_complete 91 = .ok (.aload_n 0, 1) := by decide +kernel
theorem d_Pattern_complete_92 : decode b_Pattern_complete 92 = .ok (.getfield 16, 3) := by decide +kernel
theorem d_Pattern_complete_95 : decode b_Pattern_complete 95 = .ok (.getfield 35, 3) := by decide +kernel
theorem d_Pattern_complete_98 : decode b_Pattern_complete 98 = .ok (.aload_n 0, 1) := by decide +kernel
theorem d_Pattern_complete_99 : decode b_Pattern_complete 99 = .ok (.getfield 10, 3) := by decide +kernel
theorem d_Pattern_complete_102 : decode b_Pattern_complete 102 = .ok (.getfield 35, 3) := by decide +kernel
theorem d_Pattern_complete_105 : decode b_Pattern_complete 105 = .ok (.invokevirtual 45, 3) := by decide +kernel
theorem d_Pattern_complete_108 : decode b_Pattern_complete 108 = .ok (.return_, 1) := by decide +kernel
theorem d_Pattern_secondIsUsual_0 : decode b_Pattern_secondIsUsual 0 = .ok (.aload_n 0, 1) := by decide +kernel
theorem d_Pattern_secondIsUsual_1 : decode b_Pattern_secondIsUsual 1 = .ok (.getfield 16, 3) := by decide +kernel
theorem d_Pattern_secondIsUsual_4 : decode b_Pattern_secondIsUsual 4 = .ok (.getfield 26, 3) := by decide +kernel
theorem d_Pattern_secondIsUsual_7 : decode b_Pattern_secondIsUsual 7 = .ok (.iconst 0, 1) := by decide +kernel
theorem d_Pattern_secondIsUsual_8 : decode b_Pattern_secondIsUsual 8 = .ok (.invokevirtual 49, 3) := by decide +kernel
theorem d_Pattern_secondIsUsual_11 : decode b_Pattern_secondIsUsual 11 = .ok (.bipush 45, 2) := by decide +kernel
theorem d_Pattern_secondIsUsual_13 : decode b_Pattern_secondIsUsual 13 = .ok (.if_icmp .ne 49, 3) := by decide +kernel
theorem d_Pattern_secondIsUsual_16 : decode b_Pattern_secondIsUsual 16 = .ok (.aload_n 0, 1) := by decide +kernel
theorem d_Pattern_secondIsUsual_17 : decode b_Pattern_secondIsUsual 17 = .ok (.getfield 16, 3) := by decide +kernel
theorem d_Pattern_secondIsUsual_20 : decode b_Pattern_secondIsUsual 20 = .ok (.getfield 26, 3) := by decide +kernel
theorem d_Pattern_secondIsUsual_23 : decode b_Pattern_secondIsUsual 23 = .ok (.aload_n 0, 1) := by decide +kernel
theorem d_Pattern_secondIsUsual_24 : decode b_Pattern_secondIsUsual 24 = .ok (.getfield 10, 3) := by decide +kernel
theorem d_Pattern_secondIsUsual_27 : decode b_Pattern_secondIsUsual 27 = .ok (.getfield 26, 3) := by decide +kernel
theorem d_Pattern_secondIsUsual_30 : decode b_Pattern_secondIsUsual 30 = .ok (.iconst 1, 1) := by decide +kernel
theorem d_Pattern_secondIsUsual_31 : decode b_Pattern_secondIsUsual 31 = .ok (.invokevirtual 53, 3) := by decide +kernel
theorem d_Pattern_secondIsUsual_34 : decode b_Pattern_secondIsUsual 34 = .ok (.ifCond .eq 28, 3) := by decide +kernel
theorem d_Pattern_secondIsUsual_37 : decode b_Pattern_secondIsUsual 37 = .ok (.aload_n 0, 1) := by decide +kernel
theorem d_Pattern_secondIsUsual_38 : decode b_Pattern_secondIsUsual 38 = .ok (.getfield 16, 3) := by decide +kernel
theorem d_Pattern_secondIsUsual_41 : decode b_Pattern_secondIsUsual 41 = .ok (.getfield 35, 3) := by decide +kernel
theorem d_Pattern_secondIsUsual_44 : decode b_Pattern_secondIsUsual 44 = .ok (.aload_n 0, 1) := by decide +kernel
theorem d_Pattern_secondIsUsual_45 : decode b_Pattern_secondIsUsual 45 = .ok (.getfield 10, 3) := by decide +kernel
theorem d_Pattern_secondIsUsual_48 : decode b_Pattern_secondIsUsual 48 = .ok (.getfield 35, 3) := by decide +kernel
theorem d_Pattern_secondIsUsual_51 : decode b_Pattern_secondIsUsual 51 = .ok (.iconst 0, 1) := by decide +kernel
theorem d_Pattern_secondIsUsual_52 : decode b_Pattern_secondIsUsual 52 = .ok (.invokevirtual 53, 3) := by decide +kernel
theorem d_Pattern_secondIsUsual_55 : decode b_Pattern_secondIsUsual 55 = .ok (.ifCond .eq 7, 3) := by decide +kernel
theorem d_Pattern_secondIsUsual_58 : decode b_Pattern_secondIsUsual 58 = .ok (.iconst 1, 1) := by decide +kernel
theorem d_Pattern_secondIsUsual_59 : decode b_Pattern_secondIsUsual 59 = .ok (.goto 4, 3) := by decide +kernel
theorem d_Pattern_secondIsUsual_62 : decode b_Pattern_secondIsUsual 62 = .ok (.iconst 0, 1) := by decide +kernel
theorem d_Pattern_secondIsUsual_63 : decode b_Pattern_secondIsUsual 63 = .ok (.ireturn, 1) := by decide +kernel
theorem d_PatternReader_init_0 : decode b_PatternReader_init 0 = .ok (.aload_n 0, 1) := by decide +kernel
theorem d_PatternReader_init_1 : decode b_PatternReader_init 1 = .ok (.invokespecial 3, 3) := by decide +kernel
theorem d_PatternReader_init_4 : decode b_PatternReader_init 4 = .ok (.aload_n 0, 1) := by decide +kernel
theorem d_PatternReader_init_5 : decode b_PatternReader_init 5 = .ok (.iconst 0, 1) := by decide +kernel
theorem d_PatternReader_init_6 : decode b_PatternReader_init 6 = .ok (.putfield 9, 3) := by decide +kernel
theorem d_PatternReader_init_9 : decode b_PatternReader_init 9 = .ok (.return_, 1) := by decide +kernel
theorem d_PatternReader_read_0 : decode b_PatternReader_read 0 = .ok (.aload_n 0, 1) := by decide +kernel
theorem d_PatternReader_read_1 : decode b_PatternReader_read 1 = .ok (.iconst 0, 1) := by decide +kernel
theorem d_PatternReader_read_2 : decode b_PatternReader_read 2 = .ok (.putfield 9, 3) := by decide +kernel
theorem d_PatternReader_read_5 : decode b_PatternReader_read 5 = .ok (.aload_n 2, 1) := by decide +kernel
theorem d_PatternReader_read_6 : decode b_PatternReader_read 6 = .ok (.iconst 0, 1) := by decide +kernel
theorem d_PatternReader_read_7 : decode b_PatternReader_read 7 = .ok (.putfield 15, 3) := by decide +kernel
theorem d_PatternReader_read_10 : decode b_PatternReader_read 10 = .ok (.aload_n 0, 1) := by decide +kernel
theorem d_PatternReader_read_11 : decode b_PatternReader_read 11 = .ok (.aload_n 1, 1) := by decide +kernel
theorem d_PatternReader_read_12 : decode b_PatternReader_read 12 = .ok (.aload_n 2, 1) := by decide +kernel
theorem d_PatternReader_read_13 : decode b_PatternReader_read 13 = .ok (.getfield 21, 3) := by decide +kernel
theorem d_PatternReader_read_16 : decode b_PatternReader_read 16 = .ok (.invokevirtual 25, 3) := by decide +kernel
theorem d_PatternReader_read_19 : decode b_PatternReader_read 19 = .ok (.ifCond .ne 8, 3) := by decide +kernel
theorem d_PatternReader_read_22 : decode b_PatternReader_read 22 = .ok (.aload_n 0, 1) := by decide +kernel
theorem d_PatternReader_read_23 : decode b_PatternReader_read 23 = .ok (.getfield 9, 3) := by decide +kernel
theorem d_PatternReader_read_26 : decode b_PatternReader_read 26 = .ok (.ireturn, 1) := by decide +kernel
theorem d_PatternReader_read_27 : decode b_PatternReader_read 27 = .ok (.aload_n 1, 1) := by decide +kernel
theorem d_PatternReader_read_28 : decode b_PatternReader_read 28 = .ok (.aload_n 0, 1) := by decide +kernel
theorem d_PatternReader_read_29 : decode b_PatternReader_read 29 = .ok (.getfield 9, 3) := by decide +kernel
theorem d_PatternReader_read_32 : decode b_PatternReader_read 32 = .ok (.invokevirtual 29, 3) := by decide +kernel
theorem d_PatternReader_read_35 : decode b_PatternReader_read 35 = .ok (.bipush 59, 2) := by decide +kernel
theorem d_PatternReader_read_37 : decode b_PatternReader_read 37 = .ok (.if_icmp .ne 35, 3) := by decide +kernel
theorem d_PatternReader_read_40 : decode b_PatternReader_read 40 = .ok (.aload_n 0, 1) := by decide +kernel
theorem d_PatternReader_read_41 : decode b_PatternReader_read 41 = .ok (.dup, 1) := by decide +kernel
theorem d_PatternReader_read_42 : decode b_PatternReader_read 42 = .ok (.getfield 9, 3) := by decide +kernel
theorem d_PatternReader_read_45 : decode b_PatternReader_read 45 = .ok (.iconst 1, 1) := by decide +kernel
theorem d_PatternReader_read_46 : decode b_PatternReader_read 46 = .ok (.iadd, 1) := by decide +kernel
theorem d_PatternReader_read_47 : decode b_PatternReader_read 47 = .ok (.putfield 9, 3) := by decide +kernel
theorem d_PatternReader_read_50 : decode b_PatternReader_read 50 = .ok (.aload_n 2, 1) := by decide +kernel
theorem d_PatternReader_read_51 : decode b_PatternReader_read 51 = .ok (.iconst 1, 1) := by decide +kernel
theorem d_PatternReader_read_52 : decode b_PatternReader_read 52 = .ok (.putfield 15, 3) := by decide +kernel
theorem d_PatternReader_read_55 : decode b_PatternReader_read 55 = .ok (.aload_n 0, 1) := by decide +kernel
theorem d_PatternReader_read_56 : decode b_PatternReader_read 56 = .ok (.aload_n 1, 1) := by decide +kernel
theorem d_PatternReader_read_57 : decode b_PatternReader_read 57 = .ok (.aload_n 2, 1) := by decide +kernel
theorem d_PatternReader_read_58 : decode b_PatternReader_read 58 = .ok (.getfield 35, 3) := by decide +kernel
theorem d_PatternReader_read_61 : decode b_PatternReader_read 61 = .ok (.invokevirtual 25, 3) := by decide +kernel
theorem d_PatternReader_read_64 : decode b_PatternReader_read 64 = .ok (.ifCond .ne 8, 3) := by decide +kernel
theorem d_PatternReader_read_67 : decode b_PatternReader_read 67 = .ok (.aload_n 0, 1) := by decide +kernel
theorem d_PatternReader_read_68 : decode b_PatternReader_read 68 = .ok (.getfield 9, 3) := by decide +kernel
theorem d_PatternReader_read_71 : decode b_PatternReader_read 71 = .ok (.ireturn, 1) := by decide +kernel
theorem d_PatternReader_read_72 : decode b_PatternReader_read 72 = .ok (.aload_n 0, 1) := by decide +kernel
theorem d_PatternReader_read_73 : decode b_PatternReader_read 73 = .ok (.getfield 9, 3) := by decide +kernel
theorem d_PatternReader_read_76 : decode b_PatternReader_read 76 = .ok (.aload_n 1, 1) := by decide +kernel
theorem d_PatternReader_read_77 : decode b_PatternReader_read 77 = .ok (.invokevirtual 38, 3) := by decide +kernel
theorem d_PatternReader_read_80 : decode b_PatternReader_read 80 = .ok (.if_icmp .ge 10, 3) := by decide +kernel
theorem d_PatternReader_read_83 : decode b_PatternReader_read 83 = .ok (.aload_n 0, 1) := by decide +kernel
theorem d_PatternReader_read_84 : decode b_PatternReader_read 84 = .ok (.getfield 9, 3) := by decide +kernel
theorem d_PatternReader_read_87 : decode b_PatternReader_read 87 = .ok (.goto 4, 3) := by decide +kernel
theorem d_PatternReader_read_90 : decode b_PatternReader_read 90 = .ok (.iconst (-1), 1) := by decide +kernel
theorem d_PatternReader_read_91 : decode b_PatternReader_read 91 = .ok (.ireturn, 1) := by decide +kernel
theorem d_PatternReader_readPart_0 : decode b_PatternReader_readPart 0 = .ok (.aload_n 0, 1) := by decide +kernel
theorem d_PatternReader_readPart_1 : decode b_PatternReader_readPart 1 = .ok (.aload_n 1, 1) := by decide +kernel
theorem d_PatternReader_readPart_2 : decode b_PatternReader_readPart 2 = .ok (.aload_n 2, 1) := by decide +kernel
theorem d_PatternReader_readPart_3 : decode b_PatternReader_readPart 3 = .ok (.getfield 42, 3) := by decide +kernel
theorem d_PatternReader_readPart_6 : decode b_PatternReader_readPart 6 = .ok (.invokevirtual 48, 3) := by decide +kernel
theorem d_PatternReader_readPart_9 : decode b_PatternReader_readPart 9 = .ok (.ifCond .eq 31, 3) := by decide +kernel
theorem d_PatternReader_readPart_12 : decode b_PatternReader_readPart 12 = .ok (.aload_n 0, 1) := by decide +kernel
theorem d_PatternReader_readPart_13 : decode b_PatternReader_readPart 13 = .ok (.aload_n 1, 1) := by decide +kernel
theorem d_PatternReader_readPart_14 : decode b_PatternReader_readPart 14 = .ok (.aload_n 2, 1) := by decide +kernel
theorem d_PatternReader_readPart_15 : decode b_PatternReader_readPart 15 = .ok (.getfield 52, 3) := by decide +kernel
theorem d_PatternReader_readPart_18 : decode b_PatternReader_readPart 18 = .ok (.invokevirtual 56, 3) := by decide +kernel
theorem d_PatternReader_readPart_21 : decode b_PatternReader_readPart 21 = .ok (.ifCond .eq 19, 3) := by decide +kernel
theorem d_PatternReader_readPart_24 : decode b_PatternReader_readPart 24 = .ok (.aload_n 0, 1) := by decide +kernel
theorem d_PatternReader_readPart_25 : decode b_PatternReader_readPart 25 = .ok (.aload_n 1, 1) := by decide +kernel
theorem d_PatternReader_readPart_26 : decode b_PatternReader_readPart 26 = .ok (.aload_n 2, 1) := by decide +kernel
theorem d_PatternReader_readPart_27 : decode b_PatternReader_readPart 27 = .ok (.getfield 60, 3) := by decide +kernel
theorem d_PatternReader_readPart_30 : decode b_PatternReader_readPart 30 = .ok (.invokevirtual 48, 3) := by decide +kernel
theorem d_PatternReader_readPart_33 : decode b_PatternReader_readPart 33 = .ok (.ifCond .eq 7, 3) := by decide +kernel
theorem d_PatternReader_readPart_36 : decode b_PatternReader_readPart 36 = .ok (.iconst 1, 1) := by decide +kernel
theorem d_PatternReader_readPart_37 : decode b_PatternReader_readPart 37 = .ok (.goto 4, 3) := by decide +kernel
theorem d_PatternReader_readPart_40 : decode b_PatternReader_readPart 40 = .ok (.iconst 0, 1) := by decide +kernel
theorem d_PatternReader_readPart_41 : decode b_PatternReader_readPart 41 = .ok (.ireturn, 1) := by decide +kernel
theorem d_PatternReader_readAffix_0 : decode b_PatternReader_readAffix 0 = .ok (.aload_n 2, 1) := by decide +kernel
theorem d_PatternReader_readAffix_1 : decode b_PatternReader_readAffix 1 = .ok (.invokevirtual 63, 3) := by decide +kernel
theorem d_PatternReader_readAffix_4 : decode b_PatternReader_readAffix 4 = .ok (.iconst 0, 1) := by decide +kernel
theorem d_PatternReader_readAffix_5 : decode b_PatternReader_readAffix 5 = .ok (.istore_n 3, 1) := by decide +kernel
theorem d_PatternReader_readAffix_6 : decode b_PatternReader_readAffix 6 = .ok (.aload_n 1, 1) := by decide +kernel
theorem d_PatternReader_readAffix_7 : decode b_PatternReader_readAffix 7 = .ok (.invokevirtual 38, 3) := by decide +kernel
theorem d_PatternReader_readAffix_10 : decode b_PatternReader_readAffix 10 = .ok (.istore 4, 2) := by decide +kernel
theorem d_PatternReader_readAffix_12 : decode b_PatternReader_readAffix 12 = .ok (.aload_n 0, 1) := by decide +kernel
theorem d_PatternReader_readAffix_13 : decode b_PatternReader_readAffix 13 = .ok (.getfield 9, 3) := by decide +kernel
theorem d_PatternReader_readAffix_16 : decode b_PatternReader_readAffix 16 = .ok (.iload 4, 2) := by decide +kernel
theorem d_PatternReader_readAffix_18 : decode b_PatternReader_readAffix 18 = .ok (.if_icmp .ge 122, 3) := by decide +kernel
theorem d_PatternReader_readAffix_21 : decode b_PatternReader_readAffix 21 = .ok (.aload_n 1, 1) := by decide +kernel
theorem d_PatternReader_readAffix_22 : decode b_PatternReader_readAffix 22 = .ok (.aload_n 0, 1) := by decide +kernel
theorem d_PatternReader_readAffix_23 : decode b_PatternReader_readAffix 23 = .ok (.getfield 9, 3) := by decide +kernel
theorem d_PatternReader_readAffix_26 : decode b_PatternReader_readAffix 26 = .ok (.invokevirtual 29, 3) := by decide +kernel
theorem d_PatternReader_readAffix_29 : decode b_PatternReader_readAffix 29 = .ok (.istore 5, 2) := by decide +kernel
theorem d_PatternReader_readAffix_31 : decode b_PatternReader_readAffix 31 = .ok (.iload 5, 2) := by decide +kernel
theorem d_PatternReader_readAffix_33 : decode b_PatternReader_readAffix 33 = .ok (.bipush 39, 2) := by decide +kernel
theorem d_PatternReader_readAffix_35 : decode b_PatternReader_readAffix 35 = .ok (.if_icmp .ne 50, 3) := by decide +kernel
theorem d_PatternReader_readAffix_38 : decode b_PatternReader_readAffix 38 = .ok (.aload_n 1, 1) := by decide +kernel
theorem d_PatternReader_readAffix_39 : decode b_PatternReader_readAffix 39 = .ok (.aload_n 0, 1) := by decide +kernel
theorem d_PatternReader_readAffix_40 : decode b_PatternReader_readAffix 40 = .ok (.getfield 9, 3) := by decide +kernel
theorem d_PatternReader_readAffix_43 : decode b_PatternReader_readAffix 43 = .ok (.iconst 1, 1) := by decide +kernel
theorem d_PatternReader_readAffix_44 : decode b_PatternReader_readAffix 44 = .ok (.iadd, 1) := by decide +kernel
theorem d_PatternReader_readAffix_45 : decode b_PatternReader_readAffix 45 = .ok (.invokevirtual 29, 3) := by decide +kernel
theorem d_PatternReader_readAffix_48 : decode b_PatternReader_readAffix 48 = .ok (.bipush 39, 2) := by decide +kernel
theorem d_PatternReader_readAffix_50 : decode b_PatternReader_readAffix 50 = .ok (.if_icmp .ne 22, 3) := by decide +kernel
theorem d_PatternReader_readAffix_53 : decode b_PatternReader_readAffix 53 = .ok (.aload_n 2, 1) := by decide +kernel
theorem d_PatternReader_readAffix_54 : decode b_PatternReader_readAffix 54 = .ok (.bipush 39, 2) := by decide +kernel
theorem d_PatternReader_readAffix_56 : decode b_PatternReader_readAffix 56 = .ok (.invokevirtual 68, 3) := by decide +kernel
theorem d_PatternReader_readAffix_59 : decode b_PatternReader_readAffix 59 = .ok (.aload_n 0, 1) := by decide +kernel
theorem d_PatternReader_readAffix_60 : decode b_PatternReader_readAffix 60 = .ok (.dup, 1) := by decide +kernel
theorem d_PatternReader_readAffix_61 : decode b_PatternReader_readAffix 61 = .ok (.getfield 9, 3) := by decide +kernel
theorem d_PatternReader_readAffix_64 : decode b_PatternReader_readAffix 64 = .ok (.iconst 1, 1) := by decide +kernel
theorem d_PatternReader_readAffix_65 : decode b_PatternReader_readAffix 65 = .ok (.iadd, 1) := by decide +kernel
theorem d_PatternReader_readAffix_66 : decode b_PatternReader_readAffix 66 = .ok (.putfield 9, 3) := by decide +kernel
theorem d_PatternReader_readAffix_69 : decode b_PatternReader_readAffix 69 = .ok (.goto 58, 3) := by decide +kernel
theorem d_PatternReader_readAffix_72 : decode b_PatternReader_readAffix 72 = .ok (.iload_n 3, 1) := by decide +kernel
theorem d_PatternReader_readAffix_73 : decode b_PatternReader_readAffix 73 = .ok (.ifCond .ne 7, 3) := by decide +kernel
theorem d_PatternReader_readAffix_76 : decode b_PatternReader_readAffix 76 = .ok (.iconst 1, 1) := by decide +kernel
theorem d_PatternReader_readAffix_77 : decode b_PatternReader_readAffix 77 = .ok (.goto 4, 3) := by decide +kernel
theorem d_PatternReader_readAffix_80 : decode b_PatternReader_readAffix 80 = .ok (.iconst 0, 1) := by decide +kernel
theorem d_PatternReader_readAffix_81 : decode b_PatternReader_readAffix 81 = .ok (.istore_n 3, 1) := by decide +kernel
theorem d_PatternReader_readAffix_82 : decode b_PatternReader_readAffix 82 = .ok (.goto 45, 3) := by decide +kernel
theorem d_PatternReader_readAffix_85 : decode b_PatternReader_readAffix 85 = .ok (.iload_n 3, 1) := by decide +kernel
theorem d_PatternReader_readAffix_86 : decode b_PatternReader_readAffix 86 = .ok (.ifCond .eq 12, 3) := by decide +kernel
theorem d_PatternReader_readAffix_89 : decode b_PatternReader_readAffix 89 = .ok (.aload_n 2, 1) := by decide +kernel
theorem d_PatternReader_readAffix_90 : decode b_PatternReader_readAffix 90 = .ok (.iload 5, 2) := by decide +kernel
theorem d_PatternReader_readAffix_92 : decode b_PatternReader_readAffix 92 = .ok (.invokevirtual 68, 3) := by decide +kernel
theorem d_PatternReader_readAffix_95 : decode b_PatternReader_readAffix 95 = .ok (.goto 32, 3) := by decide +kernel
theorem d_PatternReader_readAffix_98 : decode b_PatternReader_readAffix 98 = .ok (.iload 5, 2) := by decide +kernel
theorem d_PatternReader_readAffix_100 : decode b_PatternReader_readAffix 100 = .ok (.invokestatic 72, 3) := by decide +kernel
theorem d_PatternReader_readAffix_103 : decode b_PatternReader_readAffix 103 = .ok (.ifCond .eq 5, 3) := by decide +kernel
theorem d_PatternReader_readAffix_106 : decode b_PatternReader_readAffix 106 = .ok (.iconst 1, 1) := by decide +kernel
theorem d_PatternReader_readAffix_107 : decode b_PatternReader_readAffix 107 = .ok (.ireturn, 1) := by decide +kernel
theorem d_PatternReader_readAffix_108 : decode b_PatternReader_readAffix 108 = .ok (.aload_n 2, 1) := by decide +kernel
theorem d_PatternReader_readAffix_109 : decode b_PatternReader_readAffix 109 = .ok (.iload 5, 2) := by decide +kernel
theorem d_PatternReader_readAffix_111 : decode b_PatternReader_readAffix 111 = .ok (.bipush 37, 2) := by decide +kernel
theorem d_PatternReader_readAffix_113 : decode b_PatternReader_readAffix 113 = .ok (.if_icmp .ne 9, 3) := by decide +kernel
theorem d_PatternReader_readAffix_116 : decode b_PatternReader_readAffix 116 = .ok (.sipush 256, 3) := by decide +kernel
theorem d_PatternReader_readAffix_119 : decode b_PatternReader_readAffix 119 = .ok (.goto 5, 3) := by decide +kernel
theorem d_PatternReader_readAffix_122 : decode b_PatternReader_readAffix 122 = .ok (.iload 5, 2) := by decide +kernel
theorem d_PatternReader_readAffix_124 : decode b_PatternReader_readAffix 124 = .ok (.invokevirtual 68, 3) := by decide +kernel
theorem d_PatternReader_readAffix_127 : decode b_PatternReader_readAffix 127 = .ok (.aload_n 0, 1) := by decide +kernel
theorem d_PatternReader_readAffix_128 : decode b_PatternReader_readAffix 128 = .ok (.dup, 1) := by decide +kernel
theorem d_PatternReader_readAffix_129 : decode b_PatternReader_readAffix 129 = .ok (.getfield 9, 3) := by decide +kernel
theorem d_PatternReader_readAffix_132 : decode b_PatternReader_readAffix 132 = .ok (.iconst 1, 1) := by decide +kernel
theorem d_PatternReader_readAffix_133 : decode b_PatternReader_readAffix 133 = .ok (.iadd, 1) := by decide +kernel
theorem d_PatternReader_readAffix_134 : decode b_PatternReader_readAffix 134 = .ok (.putfield 9, 3) := by decide +kernel
theorem d_PatternReader_readAffix_137 : decode b_PatternReader_readAffix 137 = .ok (.goto (-125), 3) := by decide +kernel
theorem d_PatternReader_readAffix_140 : decode b_PatternReader_readAffix 140 = .ok (.iload_n 3, 1) := by decide +kernel
theorem d_PatternReader_readAffix_141 : decode b_PatternReader_readAffix 141 = .ok (.ifCond .ne 7, 3) := by decide +kernel
theorem d_PatternReader_readAffix_144 : decode b_PatternReader_readAffix 144 = .ok (.iconst 1, 1) := by decide +kernel
theorem d_PatternReader_readAffix_145 : decode b_PatternReader_readAffix 145 = .ok (.goto 4, 3) := by decide +kernel
theorem d_PatternReader_readAffix_148 : decode b_PatternReader_readAffix 148 = .ok (.iconst 0, 1) := by decide +kernel
theorem d_PatternReader_readAffix_149 : decode b_PatternReader_readAffix 149 = .ok (.ireturn, 1) := by decide +kernel
theorem d_PatternReader_readNumber_0 : decode b_PatternReader_readNumber 0 = .ok (.aload_n 2, 1) := by decide +kernel
theorem d_PatternReader_readNumber_1 : decode b_PatternReader_readNumber 1 = .ok (.invokevirtual 76, 3) := by decide +kernel
theorem d_PatternReader_readNumber_4 : decode b_PatternReader_readNumber 4 = .ok (.aload_n 0, 1) := by decide +kernel
theorem d_PatternReader_readNumber_5 : decode b_PatternReader_readNumber 5 = .ok (.aload_n 1, 1) := by decide +kernel
theorem d_PatternReader_readNumber_6 : decode b_PatternReader_readNumber 6 = .ok (.aload_n 2, 1) := by decide +kernel
theorem d_PatternReader_readNumber_7 : decode b_PatternReader_readNumber 7 = .ok (.invokevirtual 79, 3) := by decide +kernel
theorem d_PatternReader_readNumber_10 : decode b_PatternReader_readNumber 10 = .ok (.ifCond .ne 5, 3) := by decide +kernel
theorem d_PatternReader_readNumber_13 : decode b_PatternReader_readNumber 13 = .ok (.iconst 0, 1) := by decide +kernel
theorem d_PatternReader_readNumber_14 : decode b_PatternReader_readNumber 14 = .ok (.ireturn, 1) := by decide +kernel
theorem d_PatternReader_readNumber_15 : decode b_PatternReader_readNumber 15 = .ok (.aload_n 1, 1) := by decide +kernel
theorem d_PatternReader_readNumber_16 : decode b_PatternReader_readNumber 16 = .ok (.aload_n 0, 1) := by decide +kernel
theorem d_PatternReader_readNumber_17 : decode b_PatternReader_readNumber 17 = .ok (.getfield 9, 3) := by decide +kernel
theorem d_PatternReader_readNumber_20 : decode b_PatternReader_readNumber 20 = .ok (.invokevirtual 29, 3) := by decide +kernel
theorem d_PatternReader_readNumber_23 : decode b_PatternReader_readNumber 23 = .ok (.bipush 46, 2) := by decide +kernel
theorem d_PatternReader_readNumber_25 : decode b_PatternReader_readNumber 25 = .ok (.if_icmp .ne 19, 3) := by decide +kernel
theorem d_PatternReader_readNumber_28 : decode b_PatternReader_readNumber 28 = .ok (.aload_n 0, 1) := by decide +kernel
theorem d_PatternReader_readNumber_29 : decode b_PatternReader_readNumber 29 = .ok (.dup, 1) := by decide +kernel
theorem d_PatternReader_readNumber_30 : decode b_PatternReader_readNumber 30 = .ok (.getfield 9, 3) := by decide +kernel
theorem d_PatternReader_readNumber_33 : decode b_PatternReader_readNumber 33 = .ok (.iconst 1, 1) := by decide +kernel
theorem d_PatternReader_readNumber_34 : decode b_PatternReader_readNumber 34 = .ok (.iadd, 1) := by decide +kernel
theorem d_PatternReader_readNumber_35 : decode b_PatternReader_readNumber 35 = .ok (.putfield 9, 3) := by decide +kernel
theorem d_PatternReader_readNumber_38 : decode b_PatternReader_readNumber 38 = .ok (.aload_n 0, 1) := by decide +kernel
theorem d_PatternReader_readNumber_39 : decode b_PatternReader_readNumber 39 = .ok (.aload_n 1, 1) := by decide +kernel
theorem d_PatternReader_readNumber_40 : decode b_PatternReader_readNumber 40 = .ok (.aload_n 2, 1) := by decide +kernel
theorem d_PatternReader_readNumber_41 : decode b_PatternReader_readNumber 41 = .ok (.invokevirtual 82, 3) := by decide +kernel
theorem d_PatternReader_readNumber_44 : decode b_PatternReader_readNumber 44 = .ok (.aload_n 1, 1) := by decide +kernel
theorem d_PatternReader_readNumber_45 : decode b_PatternReader_readNumber 45 = .ok (.aload_n 0, 1) := by decide +kernel
theorem d_PatternReader_readNumber_46 : decode b_PatternReader_readNumber 46 = .ok (.getfield 9, 3) := by decide +kernel
theorem d_PatternReader_readNumber_49 : decode b_PatternReader_readNumber 49 = .ok (.invokevirtual 29, 3) := by decide +kernel
theorem d_PatternReader_readNumber_52 : decode b_PatternReader_readNumber 52 = .ok (.bipush 69, 2) := by decide +kernel
theorem d_PatternReader_readNumber_54 : decode b_PatternReader_readNumber 54 = .ok (.if_icmp .ne 27, 3) := by decide +kernel
theorem d_PatternReader_readNumber_57 : decode b_PatternReader_readNumber 57 = .ok (.aload_n 2, 1) := by decide +kernel
theorem d_PatternReader_readNumber_58 : decode b_PatternReader_readNumber 58 = .ok (.invokevirtual 86, 3) := by decide +kernel
theorem d_PatternReader_readNumber_61 : decode b_PatternReader_readNumber 61 = .ok (.ifCond .eq 20, 3) := by decide +kernel
theorem d_PatternReader_readNumber_64 : decode b_PatternReader_readNumber 64 = .ok (.aload_n 0, 1) := by decide +kernel
theorem d_PatternReader_readNumber_65 : decode b_PatternReader_readNumber 65 = .ok (.dup, 1) := by decide +kernel
theorem d_PatternReader_readNumber_66 : decode b_PatternReader_readNumber 66 = .ok (.getfield 9, 3) := by decide +kernel
theorem d_PatternReader_readNumber_69 : decode b_PatternReader_readNumber 69 = .ok (.iconst 1, 1) := by decide +kernel
theorem d_PatternReader_readNumber_70 : decode b_PatternReader_readNumber 70 = .ok (.iadd, 1) := by decide +kernel
theorem d_PatternReader_readNumber_71 : decode b_PatternReader_readNumber 71 = .ok (.putfield 9, 3) := by decide +kernel
theorem d_PatternReader_readNumber_74 : decode b_PatternReader_readNumber 74 = .ok (.aload_n 0, 1) := by decide +kernel
theorem d_PatternReader_readNumber_75 : decode b_PatternReader_readNumber 75 = .ok (.aload_n 1, 1) := by decide +kernel
theorem d_PatternReader_readNumber_76 : decode b_PatternReader_readNumber 76 = .ok (.aload_n 2, 1) := by decide +kernel
theorem d_PatternReader_readNumber_77 : decode b_PatternReader_readNumber 77 = .ok (.invokevirtual 90, 3) := by decide +kernel
theorem d_PatternReader_readNumber_80 : decode b_PatternReader_readNumber 80 = .ok (.ireturn, 1) := by decide +kernel
theorem d_PatternReader_readNumber_81 : decode b_PatternReader_readNumber 81 = .ok (.iconst 1, 1) := by decide +kernel
theorem d_PatternReader_readNumber_82 : decode b_PatternReader_readNumber 82 = .ok (.ireturn, 1) := by decide +kernel
theorem d_PatternReader_readInteger_0 : decode b_PatternReader_readInteger 0 = .ok (.iconst 0, 1) := by decide +kernel
theorem d_PatternReader_readInteger_1 : decode b_PatternReader_readInteger 1 = .ok (.istore_n 3, 1) := by decide +kernel
theorem d_PatternReader_readInteger_2 : decode b_PatternReader_readInteger 2 = .ok (.iload_n 3, 1) := by decide +kernel
theorem d_PatternReader_readInteger_3 : decode b_PatternReader_readInteger 3 = .ok (.bipush 12, 2) := by decide +kernel
theorem d_PatternReader_readInteger_5 : decode b_PatternReader_readInteger 5 = .ok (.if_icmp .ge 92, 3) := by decide +kernel
theorem d_PatternReader_readInteger_8 : decode b_PatternReader_readInteger 8 = .ok (.iload_n 3, 1) := by decide +kernel
theorem d_PatternReader_readInteger_9 : decode b_PatternReader_readInteger 9 = .ok (.ifCond .le 20, 3) := by decide +kernel
theorem d_PatternReader_readInteger_12 : decode b_PatternReader_readInteger 12 = .ok (.aload_n 1, 1) := by decide +kernel
theorem d_PatternReader_readInteger_13 : decode b_PatternReader_readInteger 13 = .ok (.aload_n 0, 1) := by decide +kernel
theorem d_PatternReader_readInteger_14 : decode b_PatternReader_readInteger 14 = .ok (.getfield 9, 3) := by decide +kernel
theorem d_PatternReader_readInteger_17 : decode b_PatternReader_readInteger 17 = .ok (.invokevirtual 29, 3) := by decide +kernel
theorem d_PatternReader_readInteger_20 : decode b_PatternReader_readInteger 20 = .ok (.bipush 44, 2) := by decide +kernel
theorem d_PatternReader_readInteger_22 : decode b_PatternReader_readInteger 22 = .ok (.if_icmp .ne 7, 3) := by decide +kernel
theorem d_PatternReader_readInteger_25 : decode b_PatternReader_readInteger 25 = .ok (.iconst 1, 1) := by decide +kernel
theorem d_PatternReader_readInteger_26 : decode b_PatternReader_readInteger 26 = .ok (.goto 4, 3) := by decide +kernel
theorem d_PatternReader_readInteger_29 : decode b_PatternReader_readInteger 29 = .ok (.iconst 0, 1) := by decide +kernel
theorem d_PatternReader_readInteger_30 : decode b_PatternReader_readInteger 30 = .ok (.istore 4, 2) := by decide +kernel
theorem d_PatternReader_readInteger_32 : decode b_PatternReader_readInteger 32 = .ok (.iload 4, 2) := by decide +kernel
theorem d_PatternReader_readInteger_34 : decode b_PatternReader_readInteger 34 = .ok (.ifCond .eq 17, 3) := by decide +kernel
theorem d_PatternReader_readInteger_37 : decode b_PatternReader_readInteger 37 = .ok (.aload_n 0, 1) := by decide +kernel
theorem d_PatternReader_readInteger_38 : decode b_PatternReader_readInteger 38 = .ok (.dup, 1) := by decide +kernel
theorem d_PatternReader_readInteger_39 : decode b_PatternReader_readInteger 39 = .ok (.getfield 9, 3) := by decide +kernel
theorem d_PatternReader_readInteger_42 : decode b_PatternReader_readInteger 42 = .ok (.iconst 1, 1) := by decide +kernel
theorem d_PatternReader_readInteger_43 : decode b_PatternReader_readInteger 43 = .ok (.iadd, 1) := by decide +kernel
theorem d_PatternReader_readInteger_44 : decode b_PatternReader_readInteger 44 = .ok (.putfield 9, 3) := by decide +kernel
theorem d_PatternReader_readInteger_47 : decode b_PatternReader_readInteger 47 = .ok (.aload_n 2, 1) := by decide +kernel
theorem d_PatternReader_readInteger_48 : decode b_PatternReader_readInteger 48 = .ok (.invokevirtual 93, 3) := by decide +kernel
theorem d_PatternReader_readInteger_51 : decode b_PatternReader_readInteger 51 = .ok (.aload_n 2, 1) := by decide +kernel
theorem d_PatternReader_readInteger_52 : decode b_PatternReader_readInteger 52 = .ok (.aload_n 1, 1) := by decide +kernel
theorem d_PatternReader_readInteger_53 : decode b_PatternReader_readInteger 53 = .ok (.aload_n 0, 1) := by decide +kernel
theorem d_PatternReader_readInteger_54 : decode b_PatternReader_readInteger 54 = .ok (.getfield 9, 3) := by decide +kernel
theorem d_PatternReader_readInteger_57 : decode b_PatternReader_readInteger 57 = .ok (.invokevirtual 29, 3) := by decide +kernel
theorem d_PatternReader_readInteger_60 : decode b_PatternReader_readInteger 60 = .ok (.invokevirtual 96, 3) := by decide +kernel
theorem d_PatternReader_readInteger_63 : decode b_PatternReader_readInteger 63 = .ok (.ifCond .ne 18, 3) := by decide +kernel
theorem d_PatternReader_readInteger_66 : decode b_PatternReader_readInteger 66 = .ok (.iload_n 3, 1) := by decide +kernel
theorem d_PatternReader_readInteger_67 : decode b_PatternReader_readInteger 67 = .ok (.ifCond .le 12, 3) := by decide +kernel
theorem d_PatternReader_readInteger_70 : decode b_PatternReader_readInteger 70 = .ok (.iload 4, 2) := by decide +kernel
theorem d_PatternReader_readInteger_72 : decode b_PatternReader_readInteger 72 = .ok (.ifCond .ne 7, 3) := by decide +kernel
theorem d_PatternReader_readInteger_75 : decode b_PatternReader_readInteger 75 = .ok (.iconst 1, 1) := by decide +kernel
theorem d_PatternReader_readInteger_76 : decode b_PatternReader_readInteger 76 = .ok (.goto 4, 3) := by decide +kernel
theorem d_PatternReader_readInteger_79 : decode b_PatternReader_readInteger 79 = .ok (.iconst 0, 1) := by decide +kernel
theorem d_PatternReader_readInteger_80 : decode b_PatternReader_readInteger 80 = .ok (.ireturn, 1) := by decide +kernel
theorem d_PatternReader_readInteger_81 : decode b_PatternReader_readInteger 81 = .ok (.aload_n 0, 1) := by decide +kernel
theorem d_PatternReader_readInteger_82 : decode b_PatternReader_readInteger 82 = .ok (.dup, 1) := by decide +kernel
theorem d_PatternReader_readInteger_83 : decode b_PatternReader_readInteger 83 = .ok (.getfield 9, 3) := by decide +kernel
theorem d_PatternReader_readInteger_86 : decode b_PatternReader_readInteger 86 = .ok (.iconst 1, 1) := by decide +kernel
theorem d_PatternReader_readInteger_87 : decode b_PatternReader_readInteger 87 = .ok (.iadd, 1) := by decide +kernel
theorem d_PatternReader_readInteger_88 : decode b_PatternReader_readInteger 88 = .ok (.putfield 9, 3) := by decide +kernel
theorem d_PatternReader_readInteger_91 : decode b_PatternReader_readInteger 91 = .ok (.iinc 3 1, 3) := by decide +kernel
theorem d_PatternReader_readInteger_94 : decode b_PatternReader_readInteger 94 = .ok (.goto (-92), 3) := by decide +kernel
theorem d_PatternReader_readInteger_97 : decode b_PatternReader_readInteger 97 = .ok (.iconst 1, 1) := by decide +kernel
theorem d_PatternReader_readInteger_98 : decode b_PatternReader_readInteger 98 = .ok (.ireturn, 1) := by decide +kernel
theorem d_PatternReader_readFraction_0 : decode b_PatternReader_readFraction 0 = .ok (.iconst 0, 1) := by decide +kernel
theorem d_PatternReader_readFraction_1 : decode b_PatternReader_readFraction 1 = .ok (.istore_n 3, 1) := by decide +kernel
theorem d_PatternReader_readFraction_2 : decode b_PatternReader_readFraction 2 = .ok (.iload_n 3, 1) := by decide +kernel
theorem d_PatternReader_readFraction_3 : decode b_PatternReader_readFraction 3 = .ok (.bipush 9, 2) := by decide +kernel
theorem d_PatternReader_readFraction_5 : decode b_PatternReader_readFraction 5 = .ok (.if_icmp .ge 35, 3) := by decide +kernel
theorem d_PatternReader_readFraction_8 : decode b_PatternReader_readFraction 8 = .ok (.aload_n 2, 1) := by decide +kernel
theorem d_PatternReader_readFraction_9 : decode b_PatternReader_readFraction 9 = .ok (.aload_n 1, 1) := by decide +kernel
theorem d_PatternReader_readFraction_10 : decode b_PatternReader_readFraction 10 = .ok (.aload_n 0, 1) := by decide +kernel
theorem d_PatternReader_readFraction_11 : decode b_PatternReader_readFraction 11 = .ok (.getfield 9, 3) := by decide +kernel
theorem d_PatternReader_readFraction_14 : decode b_PatternReader_readFraction 14 = .ok (.invokevirtual 29, 3) := by decide +kernel
theorem d_PatternReader_readFraction_17 : decode b_PatternReader_readFraction 17 = .ok (.invokevirtual 99, 3) := by decide +kernel
theorem d_PatternReader_readFraction_20 : decode b_PatternReader_readFraction 20 = .ok (.ifCond .ne 4, 3) := by decide +kernel
theorem d_PatternReader_readFraction_23 : decode b_PatternReader_readFraction 23 = .ok (.return_, 1) := by decide +kernel
theorem d_PatternReader_readFraction_24 : decode b_PatternReader_readFraction 24 = .ok (.aload_n 0, 1) := by decide +kernel
theorem d_PatternReader_readFraction_25 : decode b_PatternReader_readFraction 25 = .ok (.dup, 1) := by decide +kernel
theorem d_PatternReader_readFraction_26 : decode b_PatternReader_readFraction 26 = .ok (.getfield 9, 3) := by decide +kernel
theorem d_PatternReader_readFraction_29 : decode b_PatternReader_readFraction 29 = .ok (.iconst 1, 1) := by decide +kernel
theorem d_PatternReader_readFraction_30 : decode b_PatternReader_readFraction 30 = .ok (.iadd, 1) := by decide +kernel
theorem d_PatternReader_readFraction_31 : decode b_PatternReader_readFraction 31 = .ok (.putfield 9, 3) := by decide +kernel
theorem d_PatternReader_readFraction_34 : decode b_PatternReader_readFraction 34 = .ok (.iinc 3 1, 3) := by decide +kernel
theorem d_PatternReader_readFraction_37 : decode b_PatternReader_readFraction 37 = .ok (.goto (-35), 3) := by decide +kernel
theorem d_PatternReader_readFraction_40 : decode b_PatternReader_readFraction 40 = .ok (.return_, 1) := by decide +kernel
end
section
theorem d_PatternReader_readExponent_0 : decode b_PatternReader_readExponent 0 = .ok (.aload_n 2, 1) := by decide +kernel
theorem d_PatternReader_readExponent_1 : decode b_PatternReader_readExponent 1 = .ok (.getfield 102, 3) := by decide +kernel
theorem d_PatternReader_readExponent_4 : decode b_PatternReader_readExponent 4 = .ok (.iconst 3, 1) := by decide +kernel
theorem d_PatternReader_readExponent_5 : decode b_PatternReader_readExponent 5 = .ok (.if_icmp .ge 39, 3) := by decide +kernel
theorem d_PatternReader_readExponent_8 : decode b_PatternReader_readExponent 8 = .ok (.aload_n 1, 1) := by decide +kernel
theorem d_PatternReader_readExponent_9 : decode b_PatternReader_readExponent 9 = .ok (.aload_n 0, 1) := by decide +kernel
theorem d_PatternReader_readExponent_10 : decode b_PatternReader_readExponent 10 = .ok (.getfield 9, 3) := by decide +kernel
theorem d_PatternReader_readExponent_13 : decode b_PatternReader_readExponent 13 = .ok (.invokevirtual 29, 3) := by decide +kernel
theorem d_PatternReader_readExponent_16 : decode b_PatternReader_readExponent 16 = .ok (.bipush 48, 2) := by decide +kernel
theorem d_PatternReader_readExponent_18 : decode b_PatternReader_readExponent 18 = .ok (.if_icmp .ne 26, 3) := by decide +kernel
theorem d_PatternReader_readExponent_21 : decode b_PatternReader_readExponent 21 = .ok (.aload_n 2, 1) := by decide +kernel
theorem d_PatternReader_readExponent_22 : decode b_PatternReader_readExponent 22 = .ok (.dup, 1) := by decide +kernel
theorem d_PatternReader_readExponent_23 : decode b_PatternReader_readExponent 23 = .ok (.getfield 102, 3) := by decide +kernel
theorem d_PatternReader_readExponent_26 : decode b_PatternReader_readExponent 26 = .ok (.iconst 1, 1) := by decide +kernel
theorem d_PatternReader_readExponent_27 : decode b_PatternReader_readExponent 27 = .ok (.iadd, 1) := by decide +kernel
theorem d_PatternReader_readExponent_28 : decode b_PatternReader_readExponent 28 = .ok (.putfield 102, 3) := by decide +kernel
theorem d_PatternReader_readExponent_31 : decode b_PatternReader_readExponent 31 = .ok (.aload_n 0, 1) := by decide +kernel
theorem d_PatternReader_readExponent_32 : decode b_PatternReader_readExponent 32 = .ok (.dup, 1) := by decide +kernel
theorem d_PatternReader_readExponent_33 : decode b_PatternReader_readExponent 33 = .ok (.getfield 9, 3) := by decide +kernel
theorem d_PatternReader_readExponent_36 : decode b_PatternReader_readExponent 36 = .ok (.iconst 1, 1) := by decide +kernel
theorem d_PatternReader_readExponent_37 : decode b_PatternReader_readExponent 37 = .ok (.iadd, 1) := by decide +kernel
theorem d_PatternReader_readExponent_38 : decode b_PatternReader_readExponent 38 = .ok (.putfield 9, 3) := by decide +kernel
theorem d_PatternReader_readExponent_41 : decode b_PatternReader_readExponent 41 = .ok (.goto (-41), 3) := by decide +kernel
theorem d_PatternReader_readExponent_44 : decode b_PatternReader_readExponent 44 = .ok (.aload_n 2, 1) := by decide +kernel
theorem d_PatternReader_readExponent_45 : decode b_PatternReader_readExponent 45 = .ok (.getfield 102, 3) := by decide +kernel
theorem d_PatternReader_readExponent_48 : decode b_PatternReader_readExponent 48 = .ok (.ifCond .le 7, 3) := by decide +kernel
theorem d_PatternReader_readExponent_51 : decode b_PatternReader_readExponent 51 = .ok (.iconst 1, 1) := by decide +kernel
theorem d_PatternReader_readExponent_52 : decode b_PatternReader_readExponent 52 = .ok (.goto 4, 3) := by decide +kernel
theorem d_PatternReader_readExponent_55 : decode b_PatternReader_readExponent 55 = .ok (.iconst 0, 1) := by decide +kernel
theorem d_PatternReader_readExponent_56 : decode b_PatternReader_readExponent 56 = .ok (.ireturn, 1) := by decide +kernel
theorem d_PatternWriter_init_0 : decode b_PatternWriter_init 0 = .ok (.aload_n 0, 1) := by decide +kernel
theorem d_PatternWriter_init_1 : decode b_PatternWriter_init 1 = .ok (.invokespecial 3, 3) := by decide +kernel
theorem d_PatternWriter_init_4 : decode b_PatternWriter_init 4 = .ok (.return_, 1) := by decide +kernel
theorem d_PatternWriter_write_0 : decode b_PatternWriter_write 0 = .ok (.aload_n 2, 1) := by decide +kernel
theorem d_PatternWriter_write_1 : decode b_PatternWriter_write 1 = .ok (.invokevirtual 9, 3) := by decide +kernel
theorem d_PatternWriter_write_4 : decode b_PatternWriter_write 4 = .ok (.aload_n 0, 1) := by decide +kernel
theorem d_PatternWriter_write_5 : decode b_PatternWriter_write 5 = .ok (.aload_n 1, 1) := by decide +kernel
theorem d_PatternWriter_write_6 : decode b_PatternWriter_write 6 = .ok (.getfield 14, 3) := by decide +kernel
theorem d_PatternWriter_write_9 : decode b_PatternWriter_write 9 = .ok (.getfield 20, 3) := by decide +kernel
theorem d_PatternWriter_write_12 : decode b_PatternWriter_write 12 = .ok (.aload_n 2, 1) := by decide +kernel
theorem d_PatternWriter_write_13 : decode b_PatternWriter_write 13 = .ok (.invokevirtual 26, 3) := by decide +kernel
theorem d_PatternWriter_write_16 : decode b_PatternWriter_write 16 = .ok (.aload_n 0, 1) := by decide +kernel
theorem d_PatternWriter_write_17 : decode b_PatternWriter_write 17 = .ok (.aload_n 1, 1) := by decide +kernel
theorem d_PatternWriter_write_18 : decode b_PatternWriter_write 18 = .ok (.getfield 14, 3) := by decide +kernel
theorem d_PatternWriter_write_21 : decode b_PatternWriter_write 21 = .ok (.getfield 32, 3) := by decide +kernel
theorem d_PatternWriter_write_24 : decode b_PatternWriter_write 24 = .ok (.aload_n 2, 1) := by decide +kernel
theorem d_PatternWriter_write_25 : decode b_PatternWriter_write 25 = .ok (.invokevirtual 36, 3) := by decide +kernel
theorem d_PatternWriter_write_28 : decode b_PatternWriter_write 28 = .ok (.aload_n 0, 1) := by decide +kernel
theorem d_PatternWriter_write_29 : decode b_PatternWriter_write 29 = .ok (.aload_n 1, 1) := by decide +kernel
theorem d_PatternWriter_write_30 : decode b_PatternWriter_write 30 = .ok (.getfield 14, 3) := by decide +kernel
theorem d_PatternWriter_write_33 : decode b_PatternWriter_write 33 = .ok (.getfield 40, 3) := by decide +kernel
theorem d_PatternWriter_write_36 : decode b_PatternWriter_write 36 = .ok (.aload_n 2, 1) := by decide +kernel
theorem d_PatternWriter_write_37 : decode b_PatternWriter_write 37 = .ok (.invokevirtual 26, 3) := by decide +kernel
theorem d_PatternWriter_write_40 : decode b_PatternWriter_write 40 = .ok (.aload_n 1, 1) := by decide +kernel
theorem d_PatternWriter_write_41 : decode b_PatternWriter_write 41 = .ok (.getfield 43, 3) := by decide +kernel
theorem d_PatternWriter_write_44 : decode b_PatternWriter_write 44 = .ok (.ifCond .eq 48, 3) := by decide +kernel
theorem d_PatternWriter_write_47 : decode b_PatternWriter_write 47 = .ok (.aload_n 1, 1) := by decide +kernel
theorem d_PatternWriter_write_48 : decode b_PatternWriter_write 48 = .ok (.invokevirtual 47, 3) := by decide +kernel
theorem d_PatternWriter_write_51 : decode b_PatternWriter_write 51 = .ok (.ifCond .ne 41, 3) := by decide +kernel
theorem d_PatternWriter_write_54 : decode b_PatternWriter_write 54 = .ok (.aload_n 2, 1) := by decide +kernel
theorem d_PatternWriter_write_55 : decode b_PatternWriter_write 55 = .ok (.bipush 59, 2) := by decide +kernel
theorem d_PatternWriter_write_57 : decode b_PatternWriter_write 57 = .ok (.invokevirtual 51, 3) := by decide +kernel
theorem d_PatternWriter_write_60 : decode b_PatternWriter_write 60 = .ok (.pop, 1) := by decide +kernel
theorem d_PatternWriter_write_61 : decode b_PatternWriter_write 61 = .ok (.aload_n 0, 1) := by decide +kernel
theorem d_PatternWriter_write_62 : decode b_PatternWriter_write 62 = .ok (.aload_n 1, 1) := by decide +kernel
theorem d_PatternWriter_write_63 : decode b_PatternWriter_write 63 = .ok (.getfield 55, 3) := by decide +kernel
theorem d_PatternWriter_write_66 : decode b_PatternWriter_write 66 = .ok (.getfield 20, 3) := by decide +kernel
theorem d_PatternWriter_write_69 : decode b_PatternWriter_write 69 = .ok (.aload_n 2, 1) := by decide +kernel
theorem d_PatternWriter_write_70 : decode b_PatternWriter_write 70 = .ok (.invokevirtual 26, 3) := by decide +kernel
theorem d_PatternWriter_write_73 : decode b_PatternWriter_write 73 = .ok (.aload_n 2, 1) := by decide +kernel
theorem d_PatternWriter_write_74 : decode b_PatternWriter_write 74 = .ok (.bipush 35, 2) := by decide +kernel
theorem d_PatternWriter_write_76 : decode b_PatternWriter_write 76 = .ok (.invokevirtual 51, 3) := by decide +kernel
theorem d_PatternWriter_write_79 : decode b_PatternWriter_write 79 = .ok (.pop, 1) := by decide +kernel
theorem d_PatternWriter_write_80 : decode b_PatternWriter_write 80 = .ok (.aload_n 0, 1) := by decide +kernel
theorem d_PatternWriter_write_81 : decode b_PatternWriter_write 81 = .ok (.aload_n 1, 1) := by decide +kernel
theorem d_PatternWriter_write_82 : decode b_PatternWriter_write 82 = .ok (.getfield 55, 3) := by decide +kernel
theorem d_PatternWriter_write_85 : decode b_PatternWriter_write 85 = .ok (.getfield 40, 3) := by decide +kernel
theorem d_PatternWriter_write_88 : decode b_PatternWriter_write 88 = .ok (.aload_n 2, 1) := by decide +kernel
theorem d_PatternWriter_write_89 : decode b_PatternWriter_write 89 = .ok (.invokevirtual 26, 3) := by decide +kernel
theorem d_PatternWriter_write_92 : decode b_PatternWriter_write 92 = .ok (.return_, 1) := by decide +kernel
theorem d_PatternWriter_writeAffix_0 : decode b_PatternWriter_writeAffix 0 = .ok (.iconst 0, 1) := by decide +kernel
theorem d_PatternWriter_writeAffix_1 : decode b_PatternWriter_writeAffix 1 = .ok (.istore_n 3, 1) := by decide +kernel
theorem d_PatternWriter_writeAffix_2 : decode b_PatternWriter_writeAffix 2 = .ok (.iconst 0, 1) := by decide +kernel
theorem d_PatternWriter_writeAffix_3 : decode b_PatternWriter_writeAffix 3 = .ok (.istore 4, 2) := by decide +kernel
theorem d_PatternWriter_writeAffix_5 : decode b_PatternWriter_writeAffix 5 = .ok (.iload 4, 2) := by decide +kernel
theorem d_PatternWriter_writeAffix_7 : decode b_PatternWriter_writeAffix 7 = .ok (.aload_n 1, 1) := by decide +kernel
theorem d_PatternWriter_writeAffix_8 : decode b_PatternWriter_writeAffix 8 = .ok (.invokevirtual 58, 3) := by decide +kernel
theorem d_PatternWriter_writeAffix_11 : decode b_PatternWriter_writeAffix 11 = .ok (.if_icmp .ge 83, 3) := by decide +kernel
theorem d_PatternWriter_writeAffix_14 : decode b_PatternWriter_writeAffix 14 = .ok (.aload_n 1, 1) := by decide +kernel
theorem d_PatternWriter_writeAffix_15 : decode b_PatternWriter_writeAffix 15 = .ok (.iload 4, 2) := by decide +kernel
theorem d_PatternWriter_writeAffix_17 : decode b_PatternWriter_writeAffix 17 = .ok (.invokevirtual 64, 3) := by decide +kernel
theorem d_PatternWriter_writeAffix_20 : decode b_PatternWriter_writeAffix 20 = .ok (.istore 5, 2) := by decide +kernel
theorem d_PatternWriter_writeAffix_22 : decode b_PatternWriter_writeAffix 22 = .ok (.iload_n 3, 1) := by decide +kernel
theorem d_PatternWriter_writeAffix_23 : decode b_PatternWriter_writeAffix 23 = .ok (.ifCond .eq 14, 3) := by decide +kernel
theorem d_PatternWriter_writeAffix_26 : decode b_PatternWriter_writeAffix 26 = .ok (.iload 5, 2) := by decide +kernel
theorem d_PatternWriter_writeAffix_28 : decode b_PatternWriter_writeAffix 28 = .ok (.sipush 256, 3) := by decide +kernel
theorem d_PatternWriter_writeAffix_31 : decode b_PatternWriter_writeAffix 31 = .ok (.if_icmp .ne 31, 3) := by decide +kernel
theorem d_PatternWriter_writeAffix_34 : decode b_PatternWriter_writeAffix 34 = .ok (.goto 11, 3) := by decide +kernel
theorem d_PatternWriter_writeAffix_37 : decode b_PatternWriter_writeAffix 37 = .ok (.iload 5, 2) := by decide +kernel
theorem d_PatternWriter_writeAffix_39 : decode b_PatternWriter_writeAffix 39 = .ok (.invokestatic 68, 3) := by decide +kernel
theorem d_PatternWriter_writeAffix_42 : decode b_PatternWriter_writeAffix 42 = .ok (.ifCond .eq 20, 3) := by decide +kernel
theorem d_PatternWriter_writeAffix_45 : decode b_PatternWriter_writeAffix 45 = .ok (.aload_n 2, 1) := by decide +kernel
theorem d_PatternWriter_writeAffix_46 : decode b_PatternWriter_writeAffix 46 = .ok (.bipush 39, 2) := by decide +kernel
theorem d_PatternWriter_writeAffix_48 : decode b_PatternWriter_writeAffix 48 = .ok (.invokevirtual 51, 3) := by decide +kernel
theorem d_PatternWriter_writeAffix_51 : decode b_PatternWriter_writeAffix 51 = .ok (.pop, 1) := by decide +kernel
theorem d_PatternWriter_writeAffix_52 : decode b_PatternWriter_writeAffix 52 = .ok (.iload_n 3, 1) := by decide +kernel
theorem d_PatternWriter_writeAffix_53 : decode b_PatternWriter_writeAffix 53 = .ok (.ifCond .ne 7, 3) := by decide +kernel
theorem d_PatternWriter_writeAffix_56 : decode b_PatternWriter_writeAffix 56 = .ok (.iconst 1, 1) := by decide +kernel
theorem d_PatternWriter_writeAffix_57 : decode b_PatternWriter_writeAffix 57 = .ok (.goto 4, 3) := by decide +kernel
theorem d_PatternWriter_writeAffix_60 : decode b_PatternWriter_writeAffix 60 = .ok (.iconst 0, 1) := by decide +kernel
theorem d_PatternWriter_writeAffix_61 : decode b_PatternWriter_writeAffix 61 = .ok (.istore_n 3, 1) := by decide +kernel
theorem d_PatternWriter_writeAffix_62 : decode b_PatternWriter_writeAffix 62 = .ok (.iload 5, 2) := by decide +kernel
theorem d_PatternWriter_writeAffix_64 : decode b_PatternWriter_writeAffix 64 = .ok (.bipush 39, 2) := by decide +kernel
theorem d_PatternWriter_writeAffix_66 : decode b_PatternWriter_writeAffix 66 = .ok (.if_icmp .ne 10, 3) := by decide +kernel
theorem d_PatternWriter_writeAffix_69 : decode b_PatternWriter_writeAffix 69 = .ok (.aload_n 2, 1) := by decide +kernel
theorem d_PatternWriter_writeAffix_70 : decode b_PatternWriter_writeAffix 70 = .ok (.bipush 39, 2) := by decide +kernel
theorem d_PatternWriter_writeAffix_72 : decode b_PatternWriter_writeAffix 72 = .ok (.invokevirtual 51, 3) := by decide +kernel
theorem d_PatternWriter_writeAffix_75 : decode b_PatternWriter_writeAffix 75 = .ok (.pop, 1) := by decide +kernel
theorem d_PatternWriter_writeAffix_76 : decode b_PatternWriter_writeAffix 76 = .ok (.aload_n 2, 1) := by decide +kernel
theorem d_PatternWriter_writeAffix_77 : decode b_PatternWriter_writeAffix 77 = .ok (.aload_n 1, 1) := by decide +kernel
theorem d_PatternWriter_writeAffix_78 : decode b_PatternWriter_writeAffix 78 = .ok (.iload 4, 2) := by decide +kernel
theorem d_PatternWriter_writeAffix_80 : decode b_PatternWriter_writeAffix 80 = .ok (.invokevirtual 72, 3) := by decide +kernel
theorem d_PatternWriter_writeAffix_83 : decode b_PatternWriter_writeAffix 83 = .ok (.i2c, 1) := by decide +kernel
theorem d_PatternWriter_writeAffix_84 : decode b_PatternWriter_writeAffix 84 = .ok (.invokevirtual 51, 3) := by decide +kernel
theorem d_PatternWriter_writeAffix_87 : decode b_PatternWriter_writeAffix 87 = .ok (.pop, 1) := by decide +kernel
theorem d_PatternWriter_writeAffix_88 : decode b_PatternWriter_writeAffix 88 = .ok (.iinc 4 1, 3) := by decide +kernel
theorem d_PatternWriter_writeAffix_91 : decode b_PatternWriter_writeAffix 91 = .ok (.goto (-86), 3) := by decide +kernel
theorem d_PatternWriter_writeAffix_94 : decode b_PatternWriter_writeAffix 94 = .ok (.iload_n 3, 1) := by decide +kernel
theorem d_PatternWriter_writeAffix_95 : decode b_PatternWriter_writeAffix 95 = .ok (.ifCond .eq 10, 3) := by decide +kernel
theorem d_PatternWriter_writeAffix_98 : decode b_PatternWriter_writeAffix 98 = .ok (.aload_n 2, 1) := by decide +kernel
theorem d_PatternWriter_writeAffix_99 : decode b_PatternWriter_writeAffix 99 = .ok (.bipush 39, 2) := by decide +kernel
theorem d_PatternWriter_writeAffix_101 : decode b_PatternWriter_writeAffix 101 = .ok (.invokevirtual 51, 3) := by decide +kernel
theorem d_PatternWriter_writeAffix_104 : decode b_PatternWriter_writeAffix 104 = .ok (.pop, 1) := by decide +kernel
theorem d_PatternWriter_writeAffix_105 : decode b_PatternWriter_writeAffix 105 = .ok (.return_, 1) := by decide +kernel
theorem d_PatternWriter_needsQuotes_0 : decode b_PatternWriter_needsQuotes 0 = .ok (.iload_n 0, 1) := by decide +kernel
theorem d_PatternWriter_needsQuotes_1 : decode b_PatternWriter_needsQuotes 1 = .ok (.bipush 37, 2) := by decide +kernel
theorem d_PatternWriter_needsQuotes_3 : decode b_PatternWriter_needsQuotes 3 = .ok (.if_icmp .eq 10, 3) := by decide +kernel
theorem d_PatternWriter_needsQuotes_6 : decode b_PatternWriter_needsQuotes 6 = .ok (.iload_n 0, 1) := by decide +kernel
theorem d_PatternWriter_needsQuotes_7 : decode b_PatternWriter_needsQuotes 7 = .ok (.invokestatic 75, 3) := by decide +kernel
theorem d_PatternWriter_needsQuotes_10 : decode b_PatternWriter_needsQuotes 10 = .ok (.ifCond .eq 7, 3) := by decide +kernel
theorem d_PatternWriter_needsQuotes_13 : decode b_PatternWriter_needsQuotes 13 = .ok (.iconst 1, 1) := by decide +kernel
theorem d_PatternWriter_needsQuotes_14 : decode b_PatternWriter_needsQuotes 14 = .ok (.goto 4, 3) := by decide +kernel
theorem d_PatternWriter_needsQuotes_17 : decode b_PatternWriter_needsQuotes 17 = .ok (.iconst 0, 1) := by decide +kernel
theorem d_PatternWriter_needsQuotes_18 : decode b_PatternWriter_needsQuotes 18 = .ok (.ireturn, 1) := by decide +kernel
theorem d_PatternWriter_writeShape_0 : decode b_PatternWriter_writeShape 0 = .ok (.aload_n 0, 1) := by decide +kernel
theorem d_PatternWriter_writeShape_1 : decode b_PatternWriter_writeShape 1 = .ok (.aload_n 1, 1) := by decide +kernel
theorem d_PatternWriter_writeShape_2 : decode b_PatternWriter_writeShape 2 = .ok (.aload_n 2, 1) := by decide +kernel
theorem d_PatternWriter_writeShape_3 : decode b_PatternWriter_writeShape 3 = .ok (.invokevirtual 78, 3) := by decide +kernel
theorem d_PatternWriter_writeShape_6 : decode b_PatternWriter_writeShape 6 = .ok (.aload_n 1, 1) := by decide +kernel
theorem d_PatternWriter_writeShape_7 : decode b_PatternWriter_writeShape 7 = .ok (.getfield 81, 3) := by decide +kernel
theorem d_PatternWriter_writeShape_10 : decode b_PatternWriter_writeShape 10 = .ok (.ifCond .le 35, 3) := by decide +kernel
theorem d_PatternWriter_writeShape_13 : decode b_PatternWriter_writeShape 13 = .ok (.aload_n 2, 1) := by decide +kernel
theorem d_PatternWriter_writeShape_14 : decode b_PatternWriter_writeShape 14 = .ok (.bipush 46, 2) := by decide +kernel
theorem d_PatternWriter_writeShape_16 : decode b_PatternWriter_writeShape 16 = .ok (.invokevirtual 51, 3) := by decide +kernel
theorem d_PatternWriter_writeShape_19 : decode b_PatternWriter_writeShape 19 = .ok (.pop, 1) := by decide +kernel
theorem d_PatternWriter_writeShape_20 : decode b_PatternWriter_writeShape 20 = .ok (.bipush 48, 2) := by decide +kernel
theorem d_PatternWriter_writeShape_22 : decode b_PatternWriter_writeShape 22 = .ok (.aload_n 1, 1) := by decide +kernel
theorem d_PatternWriter_writeShape_23 : decode b_PatternWriter_writeShape 23 = .ok (.getfield 87, 3) := by decide +kernel
theorem d_PatternWriter_writeShape_26 : decode b_PatternWriter_writeShape 26 = .ok (.aload_n 2, 1) := by decide +kernel
theorem d_PatternWriter_writeShape_27 : decode b_PatternWriter_writeShape 27 = .ok (.invokestatic 90, 3) := by decide +kernel
theorem d_PatternWriter_writeShape_30 : decode b_PatternWriter_writeShape 30 = .ok (.bipush 35, 2) := by decide +kernel
theorem d_PatternWriter_writeShape_32 : decode b_PatternWriter_writeShape 32 = .ok (.aload_n 1, 1) := by decide +kernel
theorem d_PatternWriter_writeShape_33 : decode b_PatternWriter_writeShape 33 = .ok (.getfield 81, 3) := by decide +kernel
theorem d_PatternWriter_writeShape_36 : decode b_PatternWriter_writeShape 36 = .ok (.aload_n 1, 1) := by decide +kernel
theorem d_PatternWriter_writeShape_37 : decode b_PatternWriter_writeShape 37 = .ok (.getfield 87, 3) := by decide +kernel
theorem d_PatternWriter_writeShape_40 : decode b_PatternWriter_writeShape 40 = .ok (.isub, 1) := by decide +kernel
theorem d_PatternWriter_writeShape_41 : decode b_PatternWriter_writeShape 41 = .ok (.aload_n 2, 1) := by decide +kernel
theorem d_PatternWriter_writeShape_42 : decode b_PatternWriter_writeShape 42 = .ok (.invokestatic 90, 3) := by decide +kernel
theorem d_PatternWriter_writeShape_45 : decode b_PatternWriter_writeShape 45 = .ok (.aload_n 1, 1) := by decide +kernel
theorem d_PatternWriter_writeShape_46 : decode b_PatternWriter_writeShape 46 = .ok (.getfield 94, 3) := by decide +kernel
theorem d_PatternWriter_writeShape_49 : decode b_PatternWriter_writeShape 49 = .ok (.ifCond .le 20, 3) := by decide +kernel
theorem d_PatternWriter_writeShape_52 : decode b_PatternWriter_writeShape 52 = .ok (.aload_n 2, 1) := by decide +kernel
theorem d_PatternWriter_writeShape_53 : decode b_PatternWriter_writeShape 53 = .ok (.bipush 69, 2) := by decide +kernel
theorem d_PatternWriter_writeShape_55 : decode b_PatternWriter_writeShape 55 = .ok (.invokevirtual 51, 3) := by decide +kernel
theorem d_PatternWriter_writeShape_58 : decode b_PatternWriter_writeShape 58 = .ok (.pop, 1) := by decide +kernel
theorem d_PatternWriter_writeShape_59 : decode b_PatternWriter_writeShape 59 = .ok (.bipush 48, 2) := by decide +kernel
theorem d_PatternWriter_writeShape_61 : decode b_PatternWriter_writeShape 61 = .ok (.aload_n 1, 1) := by decide +kernel
theorem d_PatternWriter_writeShape_62 : decode b_PatternWriter_writeShape 62 = .ok (.getfield 94, 3) := by decide +kernel
theorem d_PatternWriter_writeShape_65 : decode b_PatternWriter_writeShape 65 = .ok (.aload_n 2, 1) := by decide +kernel
theorem d_PatternWriter_writeShape_66 : decode b_PatternWriter_writeShape 66 = .ok (.invokestatic 90, 3) := by decide +kernel
theorem d_PatternWriter_writeShape_69 : decode b_PatternWriter_writeShape 69 = .ok (.return_, 1) := by decide +kernel
theorem d_PatternWriter_writeInteger_0 : decode b_PatternWriter_writeInteger 0 = .ok (.iconst 0, 1) := by decide +kernel
theorem d_PatternWriter_writeInteger_1 : decode b_PatternWriter_writeInteger 1 = .ok (.aload_n 1, 1) := by decide +kernel
theorem d_PatternWriter_writeInteger_2 : decode b_PatternWriter_writeInteger 2 = .ok (.getfield 97, 3) := by decide +kernel
theorem d_PatternWriter_writeInteger_5 : decode b_PatternWriter_writeInteger 5 = .ok (.iconst 1, 1) := by decide +kernel
theorem d_PatternWriter_writeInteger_6 : decode b_PatternWriter_writeInteger 6 = .ok (.iadd, 1) := by decide +kernel
theorem d_PatternWriter_writeInteger_7 : decode b_PatternWriter_writeInteger 7 = .ok (.aload_n 1, 1) := by decide +kernel
theorem d_PatternWriter_writeInteger_8 : decode b_PatternWriter_writeInteger 8 = .ok (.getfield 100, 3) := by decide +kernel
theorem d_PatternWriter_writeInteger_11 : decode b_PatternWriter_writeInteger 11 = .ok (.isub, 1) := by decide +kernel
theorem d_PatternWriter_writeInteger_12 : decode b_PatternWriter_writeInteger 12 = .ok (.invokestatic 103, 3) := by decide +kernel
theorem d_PatternWriter_writeInteger_15 : decode b_PatternWriter_writeInteger 15 = .ok (.istore_n 3, 1) := by decide +kernel
theorem d_PatternWriter_writeInteger_16 : decode b_PatternWriter_writeInteger 16 = .ok (.iload_n 3, 1) := by decide +kernel
theorem d_PatternWriter_writeInteger_17 : decode b_PatternWriter_writeInteger 17 = .ok (.aload_n 1, 1) := by decide +kernel
theorem d_PatternWriter_writeInteger_18 : decode b_PatternWriter_writeInteger 18 = .ok (.getfield 100, 3) := by decide +kernel
theorem d_PatternWriter_writeInteger_21 : decode b_PatternWriter_writeInteger 21 = .ok (.iadd, 1) := by decide +kernel
theorem d_PatternWriter_writeInteger_22 : decode b_PatternWriter_writeInteger 22 = .ok (.istore 4, 2) := by decide +kernel
theorem d_PatternWriter_writeInteger_24 : decode b_PatternWriter_writeInteger 24 = .ok (.iconst 0, 1) := by decide +kernel
theorem d_PatternWriter_writeInteger_25 : decode b_PatternWriter_writeInteger 25 = .ok (.istore 5, 2) := by decide +kernel
theorem d_PatternWriter_writeInteger_27 : decode b_PatternWriter_writeInteger 27 = .ok (.iload 5, 2) := by decide +kernel
theorem d_PatternWriter_writeInteger_29 : decode b_PatternWriter_writeInteger 29 = .ok (.iload 4, 2) := by decide +kernel
theorem d_PatternWriter_writeInteger_31 : decode b_PatternWriter_writeInteger 31 = .ok (.if_icmp .ge 53, 3) := by decide +kernel
theorem d_PatternWriter_writeInteger_34 : decode b_PatternWriter_writeInteger 34 = .ok (.aload_n 1, 1) := by decide +kernel
theorem d_PatternWriter_writeInteger_35 : decode b_PatternWriter_writeInteger 35 = .ok (.getfield 97, 3) := by decide +kernel
theorem d_PatternWriter_writeInteger_38 : decode b_PatternWriter_writeInteger 38 = .ok (.ifCond .le 22, 3) := by decide +kernel
theorem d_PatternWriter_writeInteger_41 : decode b_PatternWriter_writeInteger 41 = .ok (.iload 4, 2) := by decide +kernel
theorem d_PatternWriter_writeInteger_43 : decode b_PatternWriter_writeInteger 43 = .ok (.iload 5, 2) := by decide +kernel
theorem d_PatternWriter_writeInteger_45 : decode b_PatternWriter_writeInteger 45 = .ok (.isub, 1) := by decide +kernel
theorem d_PatternWriter_writeInteger_46 : decode b_PatternWriter_writeInteger 46 = .ok (.aload_n 1, 1) := by decide +kernel
theorem d_PatternWriter_writeInteger_47 : decode b_PatternWriter_writeInteger 47 = .ok (.getfield 97, 3) := by decide +kernel
theorem d_PatternWriter_writeInteger_50 : decode b_PatternWriter_writeInteger 50 = .ok (.if_icmp .ne 10, 3) := by decide +kernel
theorem d_PatternWriter_writeInteger_53 : decode b_PatternWriter_writeInteger 53 = .ok (.aload_n 2, 1) := by decide +kernel
theorem d_PatternWriter_writeInteger_54 : decode b_PatternWriter_writeInteger 54 = .ok (.bipush 44, 2) := by decide +kernel
theorem d_PatternWriter_writeInteger_56 : decode b_PatternWriter_writeInteger 56 = .ok (.invokevirtual 51, 3) := by decide +kernel
theorem d_PatternWriter_writeInteger_59 : decode b_PatternWriter_writeInteger 59 = .ok (.pop, 1) := by decide +kernel
theorem d_PatternWriter_writeInteger_60 : decode b_PatternWriter_writeInteger 60 = .ok (.aload_n 2, 1) := by decide +kernel
theorem d_PatternWriter_writeInteger_61 : decode b_PatternWriter_writeInteger 61 = .ok (.iload 5, 2) := by decide +kernel
theorem d_PatternWriter_writeInteger_63 : decode b_PatternWriter_writeInteger 63 = .ok (.iload_n 3, 1) := by decide +kernel
theorem d_PatternWriter_writeInteger_64 : decode b_PatternWriter_writeInteger 64 = .ok (.if_icmp .ge 8, 3) := by decide +kernel
theorem d_PatternWriter_writeInteger_67 : decode b_PatternWriter_writeInteger 67 = .ok (.bipush 35, 2) := by decide +kernel
theorem d_PatternWriter_writeInteger_69 : decode b_PatternWriter_writeInteger 69 = .ok (.goto 5, 3) := by decide +kernel
theorem d_PatternWriter_writeInteger_72 : decode b_PatternWriter_writeInteger 72 = .ok (.bipush 48, 2) := by decide +kernel
theorem d_PatternWriter_writeInteger_74 : decode b_PatternWriter_writeInteger 74 = .ok (.invokevirtual 51, 3) := by decide +kernel
theorem d_PatternWriter_writeInteger_77 : decode b_PatternWriter_writeInteger 77 = .ok (.pop, 1) := by decide +kernel
theorem d_PatternWriter_writeInteger_78 : decode b_PatternWriter_writeInteger 78 = .ok (.iinc 5 1, 3) := by decide +kernel
theorem d_PatternWriter_writeInteger_81 : decode b_PatternWriter_writeInteger 81 = .ok (.goto (-54), 3) := by decide +kernel
theorem d_PatternWriter_writeInteger_84 : decode b_PatternWriter_writeInteger 84 = .ok (.return_, 1) := by decide +kernel
theorem d_PatternWriter_writeMany_0 : decode b_PatternWriter_writeMany 0 = .ok (.iconst 0, 1) := by decide +kernel
theorem d_PatternWriter_writeMany_1 : decode b_PatternWriter_writeMany 1 = .ok (.istore_n 3, 1) := by decide +kernel
theorem d_PatternWriter_writeMany_2 : decode b_PatternWriter_writeMany 2 = .ok (.iload_n 3, 1) := by decide +kernel
theorem d_PatternWriter_writeMany_3 : decode b_PatternWriter_writeMany 3 = .ok (.iload_n 1, 1) := by decide +kernel
theorem d_PatternWriter_writeMany_4 : decode b_PatternWriter_writeMany 4 = .ok (.if_icmp .ge 15, 3) := by decide +kernel
theorem d_PatternWriter_writeMany_7 : decode b_PatternWriter_writeMany 7 = .ok (.aload_n 2, 1) := by decide +kernel
theorem d_PatternWriter_writeMany_8 : decode b_PatternWriter_writeMany 8 = .ok (.iload_n 0, 1) := by decide +kernel
theorem d_PatternWriter_writeMany_9 : decode b_PatternWriter_writeMany 9 = .ok (.invokevirtual 51, 3) := by decide +kernel
theorem d_PatternWriter_writeMany_12 : decode b_PatternWriter_writeMany 12 = .ok (.pop, 1) := by decide +kernel
theorem d_PatternWriter_writeMany_13 : decode b_PatternWriter_writeMany 13 = .ok (.iinc 3 1, 3) := by decide +kernel
theorem d_PatternWriter_writeMany_16 : decode b_PatternWriter_writeMany 16 = .ok (.goto (-14), 3) := by decide +kernel
theorem d_PatternWriter_writeMany_19 : decode b_PatternWriter_writeMany 19 = .ok (.return_, 1) := by decide +kernel
theorem d_Decimal_init_0 : decode b_Decimal_init 0 = .ok (.aload_n 0, 1) := by decide +kernel
theorem d_Decimal_init_1 : decode b_Decimal_init 1 = .ok (.invokespecial 3, 3) := by decide +kernel
theorem d_Decimal_init_4 : decode b_Decimal_init 4 = .ok (.aload_n 0, 1) := by decide +kernel
theorem d_Decimal_init_5 : decode b_Decimal_init 5 = .ok (.lconst 0, 1) := by decide +kernel
theorem d_Decimal_init_6 : decode b_Decimal_init 6 = .ok (.iconst 0, 1) := by decide +kernel
theorem d_Decimal_init_7 : decode b_Decimal_init 7 = .ok (.invokevirtual 9, 3) := by decide +kernel
theorem d_Decimal_init_10 : decode b_Decimal_init 10 = .ok (.return_, 1) := by decide +kernel
theorem d_Decimal_set_0 : decode b_Decimal_set 0 = .ok (.aload_n 0, 1) := by decide +kernel
theorem d_Decimal_set_1 : decode b_Decimal_set 1 = .ok (.lload_n 1, 1) := by decide +kernel
theorem d_Decimal_set_2 : decode b_Decimal_set 2 = .ok (.lconst 0, 1) := by decide +kernel
theorem d_Decimal_set_3 : decode b_Decimal_set 3 = .ok (.lcmp, 1) := by decide +kernel
theorem d_Decimal_set_4 : decode b_Decimal_set 4 = .ok (.ifCond .ge 7, 3) := by decide +kernel
theorem d_Decimal_set_7 : decode b_Decimal_set 7 = .ok (.iconst 1, 1) := by decide +kernel
theorem d_Decimal_set_8 : decode b_Decimal_set 8 = .ok (.goto 4, 3) := by decide +kernel
theorem d_Decimal_set_11 : decode b_Decimal_set 11 = .ok (.iconst 0, 1) := by decide +kernel
theorem d_Decimal_set_12 : decode b_Decimal_set 12 = .ok (.putfield 15, 3) := by decide +kernel
theorem d_Decimal_set_15 : decode b_Decimal_set 15 = .ok (.aload_n 0, 1) := by decide +kernel
theorem d_Decimal_set_16 : decode b_Decimal_set 16 = .ok (.lload_n 1, 1) := by decide +kernel
theorem d_Decimal_set_17 : decode b_Decimal_set 17 = .ok (.invokestatic 19, 3) := by decide +kernel
theorem d_Decimal_set_20 : decode b_Decimal_set 20 = .ok (.putfield 25, 3) := by decide +kernel
theorem d_Decimal_set_23 : decode b_Decimal_set 23 = .ok (.aload_n 0, 1) := by decide +kernel
theorem d_Decimal_set_24 : decode b_Decimal_set 24 = .ok (.iload_n 3, 1) := by decide +kernel
theorem d_Decimal_set_25 : decode b_Decimal_set 25 = .ok (.putfield 29, 3) := by decide +kernel
theorem d_Decimal_set_28 : decode b_Decimal_set 28 = .ok (.return_, 1) := by decide +kernel
theorem d_Decimal_isBelowZero_0 : decode b_Decimal_isBelowZero 0 = .ok (.aload_n 0, 1) := by decide +kernel
theorem d_Decimal_isBelowZero_1 : decode b_Decimal_isBelowZero 1 = .ok (.getfield 15, 3) := by decide +kernel
theorem d_Decimal_isBelowZero_4 : decode b_Decimal_isBelowZero 4 = .ok (.ifCond .eq 16, 3) := by decide +kernel
theorem d_Decimal_isBelowZero_7 : decode b_Decimal_isBelowZero 7 = .ok (.aload_n 0, 1) := by decide +kernel
theorem d_Decimal_isBelowZero_8 : decode b_Decimal_isBelowZero 8 = .ok (.getfield 25, 3) := by decide +kernel
theorem d_Decimal_isBelowZero_11 : decode b_Decimal_isBelowZero 11 = .ok (.lconst 0, 1) := by decide +kernel
theorem d_Decimal_isBelowZero_12 : decode b_Decimal_isBelowZero 12 = .ok (.lcmp, 1) := by decide +kernel
theorem d_Decimal_isBelowZero_13 : decode b_Decimal_isBelowZero 13 = .ok (.ifCond .eq 7, 3) := by decide +kernel
theorem d_Decimal_isBelowZero_16 : decode b_Decimal_isBelowZero 16 = .ok (.iconst 1, 1) := by decide +kernel
theorem d_Decimal_isBelowZero_17 : decode b_Decimal_isBelowZero 17 = .ok (.goto 4, 3) := by decide +kernel
theorem d_Decimal_isBelowZero_20 : decode b_Decimal_isBelowZero 20 = .ok (.iconst 0, 1) := by decide +kernel
theorem d_Decimal_isBelowZero_21 : decode b_Decimal_isBelowZero 21 = .ok (.ireturn, 1) := by decide +kernel
theorem d_Decimal_whole_0 : decode b_Decimal_whole 0 = .ok (.aload_n 0, 1) := by decide +kernel
theorem d_Decimal_whole_1 : decode b_Decimal_whole 1 = .ok (.getfield 25, 3) := by decide +kernel
theorem d_Decimal_whole_4 : decode b_Decimal_whole 4 = .ok (.aload_n 0, 1) := by decide +kernel
theorem d_Decimal_whole_5 : decode b_Decimal_whole 5 = .ok (.getfield 29, 3) := by decide +kernel
theorem d_Decimal_whole_8 : decode b_Decimal_whole 8 = .ok (.invokestatic 33, 3) := by decide +kernel
theorem d_Decimal_whole_11 : decode b_Decimal_whole 11 = .ok (.ldiv, 1) := by decide +kernel
theorem d_Decimal_whole_12 : decode b_Decimal_whole 12 = .ok (.lreturn, 1) := by decide +kernel
theorem d_Decimal_roundTo_0 : decode b_Decimal_roundTo 0 = .ok (.aload_n 0, 1) := by decide +kernel
theorem d_Decimal_roundTo_1 : decode b_Decimal_roundTo 1 = .ok (.getfield 29, 3) := by decide +kernel
theorem d_Decimal_roundTo_4 : decode b_Decimal_roundTo 4 = .ok (.iload_n 1, 1) := by decide +kernel
theorem d_Decimal_roundTo_5 : decode b_Decimal_roundTo 5 = .ok (.if_icmp .gt 5, 3) := by decide +kernel
theorem d_Decimal_roundTo_8 : decode b_Decimal_roundTo 8 = .ok (.iconst 1, 1) := by decide +kernel
theorem d_Decimal_roundTo_9 : decode b_Decimal_roundTo 9 = .ok (.ireturn, 1) := by decide +kernel
theorem d_Decimal_roundTo_10 : decode b_Decimal_roundTo 10 = .ok (.aload_n 0, 1) := by decide +kernel
theorem d_Decimal_roundTo_11 : decode b_Decimal_roundTo 11 = .ok (.getfield 29, 3) := by decide +kernel
theorem d_Decimal_roundTo_14 : decode b_Decimal_roundTo 14 = .ok (.iload_n 1, 1) := by decide +kernel
theorem d_Decimal_roundTo_15 : decode b_Decimal_roundTo 15 = .ok (.isub, 1) := by decide +kernel
theorem d_Decimal_roundTo_16 : decode b_Decimal_roundTo 16 = .ok (.invokestatic 33, 3) := by decide +kernel
theorem d_Decimal_roundTo_19 : decode b_Decimal_roundTo 19 = .ok (.lstore_n 3, 1) := by decide +kernel
theorem d_Decimal_roundTo_20 : decode b_Decimal_roundTo 20 = .ok (.aload_n 0, 1) := by decide +kernel
theorem d_Decimal_roundTo_21 : decode b_Decimal_roundTo 21 = .ok (.getfield 25, 3) := by decide +kernel
theorem d_Decimal_roundTo_24 : decode b_Decimal_roundTo 24 = .ok (.lload_n 3, 1) := by decide +kernel
theorem d_Decimal_roundTo_25 : decode b_Decimal_roundTo 25 = .ok (.lrem, 1) := by decide +kernel
theorem d_Decimal_roundTo_26 : decode b_Decimal_roundTo 26 = .ok (.lstore 5, 2) := by decide +kernel
theorem d_Decimal_roundTo_28 : decode b_Decimal_roundTo 28 = .ok (.lload 5, 2) := by decide +kernel
theorem d_Decimal_roundTo_30 : decode b_Decimal_roundTo 30 = .ok (.lconst 0, 1) := by decide +kernel
theorem d_Decimal_roundTo_31 : decode b_Decimal_roundTo 31 = .ok (.lcmp, 1) := by decide +kernel
theorem d_Decimal_roundTo_32 : decode b_Decimal_roundTo 32 = .ok (.ifCond .eq 11, 3) := by decide +kernel
theorem d_Decimal_roundTo_35 : decode b_Decimal_roundTo 35 = .ok (.iload_n 2, 1) := by decide +kernel
theorem d_Decimal_roundTo_36 : decode b_Decimal_roundTo 36 = .ok (.bipush 7, 2) := by decide +kernel
theorem d_Decimal_roundTo_38 : decode b_Decimal_roundTo 38 = .ok (.if_icmp .ne 5, 3) := by decide +kernel
theorem d_Decimal_roundTo_41 : decode b_Decimal_roundTo 41 = .ok (.iconst 0, 1) := by decide +kernel
theorem d_Decimal_roundTo_42 : decode b_Decimal_roundTo 42 = .ok (.ireturn, 1) := by decide +kernel
theorem d_Decimal_roundTo_43 : decode b_Decimal_roundTo 43 = .ok (.aload_n 0, 1) := by decide +kernel
theorem d_Decimal_roundTo_44 : decode b_Decimal_roundTo 44 = .ok (.getfield 25, 3) := by decide +kernel
theorem d_Decimal_roundTo_47 : decode b_Decimal_roundTo 47 = .ok (.lload_n 3, 1) := by decide +kernel
theorem d_Decimal_roundTo_48 : decode b_Decimal_roundTo 48 = .ok (.ldiv, 1) := by decide +kernel
theorem d_Decimal_roundTo_49 : decode b_Decimal_roundTo 49 = .ok (.lstore 7, 2) := by decide +kernel
theorem d_Decimal_roundTo_51 : decode b_Decimal_roundTo 51 = .ok (.aload_n 0, 1) := by decide +kernel
theorem d_Decimal_roundTo_52 : decode b_Decimal_roundTo 52 = .ok (.lload 5, 2) := by decide +kernel
theorem d_Decimal_roundTo_54 : decode b_Decimal_roundTo 54 = .ok (.lconst 0, 1) := by decide +kernel
theorem d_Decimal_roundTo_55 : decode b_Decimal_roundTo 55 = .ok (.lcmp, 1) := by decide +kernel
theorem d_Decimal_roundTo_56 : decode b_Decimal_roundTo 56 = .ok (.ifCond .eq 23, 3) := by decide +kernel
theorem d_Decimal_roundTo_59 : decode b_Decimal_roundTo 59 = .ok (.aload_n 0, 1) := by decide +kernel
theorem d_Decimal_roundTo_60 : decode b_Decimal_roundTo 60 = .ok (.iload_n 2, 1) := by decide +kernel
theorem d_Decimal_roundTo_61 : decode b_Decimal_roundTo 61 = .ok (.lload 7, 2) := by decide +kernel
theorem d_Decimal_roundTo_63 : decode b_Decimal_roundTo 63 = .ok (.lload 5, 2) := by decide +kernel
theorem d_Decimal_roundTo_65 : decode b_Decimal_roundTo 65 = .ok (.lload_n 3, 1) := by decide +kernel
theorem d_Decimal_roundTo_66 : decode b_Decimal_roundTo 66 = .ok (.invokevirtual 37, 3) := by decide +kernel
theorem d_Decimal_roundTo_69 : decode b_Decimal_roundTo 69 = .ok (.ifCond .eq 10, 3) := by decide +kernel
theorem d_Decimal_roundTo_72 : decode b_Decimal_roundTo 72 = .ok (.lload 7, 2) := by decide +kernel
theorem d_Decimal_roundTo_74 : decode b_Decimal_roundTo 74 = .ok (.lconst 1, 1) := by decide +kernel
theorem d_Decimal_roundTo_75 : decode b_Decimal_roundTo 75 = .ok (.ladd, 1) := by decide +kernel
theorem d_Decimal_roundTo_76 : decode b_Decimal_roundTo 76 = .ok (.goto 5, 3) := by decide +kernel
theorem d_Decimal_roundTo_79 : decode b_Decimal_roundTo 79 = .ok (.lload 7, 2) := by decide +kernel
theorem d_Decimal_roundTo_81 : decode b_Decimal_roundTo 81 = .ok (.putfield 25, 3) := by decide +kernel
theorem d_Decimal_roundTo_84 : decode b_Decimal_roundTo 84 = .ok (.aload_n 0, 1) := by decide +kernel
theorem d_Decimal_roundTo_85 : decode b_Decimal_roundTo 85 = .ok (.iload_n 1, 1) := by decide +kernel
theorem d_Decimal_roundTo_86 : decode b_Decimal_roundTo 86 = .ok (.putfield 29, 3) := by decide +kernel
theorem d_Decimal_roundTo_89 : decode b_Decimal_roundTo 89 = .ok (.iconst 1, 1) := by decide +kernel
theorem d_Decimal_roundTo_90 : decode b_Decimal_roundTo 90 = .ok (.ireturn, 1) := by decide +kernel
theorem d_Decimal_goesAway_0 : decode b_Decimal_goesAway 0 = .ok (.lload 4, 2) := by decide +kernel
theorem d_Decimal_goesAway_2 : decode b_Decimal_goesAway 2 = .ok (.lload 6, 2) := by decide +kernel
theorem d_Decimal_goesAway_4 : decode b_Decimal_goesAway 4 = .ok (.lload 4, 2) := by decide +kernel
theorem d_Decimal_goesAway_6 : decode b_Decimal_goesAway 6 = .ok (.lsub, 1) := by decide +kernel
theorem d_Decimal_goesAway_7 : decode b_Decimal_goesAway 7 = .ok (.invokestatic 41, 3) := by decide +kernel
theorem d_Decimal_goesAway_10 : decode b_Decimal_goesAway 10 = .ok (.istore 8, 2) := by decide +kernel
theorem d_Decimal_goesAway_12 : decode b_Decimal_goesAway 12 = .ok (.iload_n 1, 1) := by decide +kernel
theorem d_Decimal_goesAway_13 : decode b_Decimal_goesAway 13 = .ok (.tableswitch 111 0 6 #[43, 111, 45, 58, 63, 74, 85], 43) := by decide +kernel
theorem d_Decimal_goesAway_56 : decode b_Decimal_goesAway 56 = .ok (.iconst 1, 1) := by decide +kernel
theorem d_Decimal_goesAway_57 : decode b_Decimal_goesAway 57 = .ok (.ireturn, 1) := by decide +kernel
theorem d_Decimal_goesAway_58 : decode b_Decimal_goesAway 58 = .ok (.aload_n 0, 1) := by decide +kernel
theorem d_Decimal_goesAway_59 : decode b_Decimal_goesAway 59 = .ok (.getfield 15, 3) := by decide +kernel
theorem d_Decimal_goesAway_62 : decode b_Decimal_goesAway 62 = .ok (.ifCond .ne 7, 3) := by decide +kernel
theorem d_Decimal_goesAway_65 : decode b_Decimal_goesAway 65 = .ok (.iconst 1, 1) := by decide +kernel
theorem d_Decimal_goesAway_66 : decode b_Decimal_goesAway 66 = .ok (.goto 4, 3) := by decide +kernel
theorem d_Decimal_goesAway_69 : decode b_Decimal_goesAway 69 = .ok (.iconst 0, 1) := by decide +kernel
theorem d_Decimal_goesAway_70 : decode b_Decimal_goesAway 70 = .ok (.ireturn, 1) := by decide +kernel
theorem d_Decimal_goesAway_71 : decode b_Decimal_goesAway 71 = .ok (.aload_n 0, 1) := by decide +kernel
theorem d_Decimal_goesAway_72 : decode b_Decimal_goesAway 72 = .ok (.getfield 15, 3) := by decide +kernel
theorem d_Decimal_goesAway_75 : decode b_Decimal_goesAway 75 = .ok (.ireturn, 1) := by decide +kernel
theorem d_Decimal_goesAway_76 : decode b_Decimal_goesAway 76 = .ok (.iload 8, 2) := by decide +kernel
theorem d_Decimal_goesAway_78 : decode b_Decimal_goesAway 78 = .ok (.ifCond .lt 7, 3) := by decide +kernel
theorem d_Decimal_goesAway_81 : decode b_Decimal_goesAway 81 = .ok (.iconst 1, 1) := by decide +kernel
theorem d_Decimal_goesAway_82 : decode b_Decimal_goesAway 82 = .ok (.goto 4, 3) := by decide +kernel
theorem d_Decimal_goesAway_85 : decode b_Decimal_goesAway 85 = .ok (.iconst 0, 1) := by decide +kernel
theorem d_Decimal_goesAway_86 : decode b_Decimal_goesAway 86 = .ok (.ireturn, 1) := by decide +kernel
theorem d_Decimal_goesAway_87 : decode b_Decimal_goesAway 87 = .ok (.iload 8, 2) := by decide +kernel
theorem d_Decimal_goesAway_89 : decode b_Decimal_goesAway 89 = .ok (.ifCond .le 7, 3) := by decide +kernel
theorem d_Decimal_goesAway_92 : decode b_Decimal_goesAway 92 = .ok (.iconst 1, 1) := by decide +kernel
theorem d_Decimal_goesAway_93 : decode b_Decimal_goesAway 93 = .ok (.goto 4, 3) := by decide +kernel
theorem d_Decimal_goesAway_96 : decode b_Decimal_goesAway 96 = .ok (.iconst 0, 1) := by decide +kernel
theorem d_Decimal_goesAway_97 : decode b_Decimal_goesAway 97 = .ok (.ireturn, 1) := by decide +kernel
theorem d_Decimal_goesAway_98 : decode b_Decimal_goesAway 98 = .ok (.iload 8, 2) := by decide +kernel
theorem d_Decimal_goesAway_100 : decode b_Decimal_goesAway 100 = .ok (.ifCond .gt 18, 3) := by decide +kernel
theorem d_Decimal_goesAway_103 : decode b_Decimal_goesAway 103 = .ok (.iload 8, 2) := by decide +kernel
theorem d_Decimal_goesAway_105 : decode b_Decimal_goesAway 105 = .ok (.ifCond .ne 17, 3) := by decide +kernel
theorem d_Decimal_goesAway_108 : decode b_Decimal_goesAway 108 = .ok (.lload_n 2, 1) := by decide +kernel
theorem d_Decimal_goesAway_109 : decode b_Decimal_goesAway 109 = .ok (.ldc2_w 47, 3) := by decide +kernel
theorem d_Decimal_goesAway_112 : decode b_Decimal_goesAway 112 = .ok (.lrem, 1) := by decide +kernel
theorem d_Decimal_goesAway_113 : decode b_Decimal_goesAway 113 = .ok (.lconst 0, 1) := by decide +kernel
theorem d_Decimal_goesAway_114 : decode b_Decimal_goesAway 114 = .ok (.lcmp, 1) := by decide +kernel
theorem d_Decimal_goesAway_115 : decode b_Decimal_goesAway 115 = .ok (.ifCond .eq 7, 3) := by decide +kernel
theorem d_Decimal_goesAway_118 : decode b_Decimal_goesAway 118 = .ok (.iconst 1, 1) := by decide +kernel
theorem d_Decimal_goesAway_119 : decode b_Decimal_goesAway 119 = .ok (.goto 4, 3) := by decide +kernel
theorem d_Decimal_goesAway_122 : decode b_Decimal_goesAway 122 = .ok (.iconst 0, 1) := by decide +kernel
theorem d_Decimal_goesAway_123 : decode b_Decimal_goesAway 123 = .ok (.ireturn, 1) := by decide +kernel
theorem d_Decimal_goesAway_124 : decode b_Decimal_goesAway 124 = .ok (.iconst 0, 1) := by decide +kernel
theorem d_Decimal_goesAway_125 : decode b_Decimal_goesAway 125 = .ok (.ireturn, 1) := by decide +kernel
theorem d_Decimal_fractionCount_0 : decode b_Decimal_fractionCount 0 = .ok (.aload_n 0, 1) := by decide +kernel
theorem d_Decimal_fractionCount_1 : decode b_Decimal_fractionCount 1 = .ok (.getfield 29, 3) := by decide +kernel
theorem d_Decimal_fractionCount_4 : decode b_Decimal_fractionCount 4 = .ok (.istore_n 1, 1) := by decide +kernel
theorem d_Decimal_fractionCount_5 : decode b_Decimal_fractionCount 5 = .ok (.aload_n 0, 1) := by decide +kernel
theorem d_Decimal_fractionCount_6 : decode b_Decimal_fractionCount 6 = .ok (.getfield 25, 3) := by decide +kernel
theorem d_Decimal_fractionCount_9 : decode b_Decimal_fractionCount 9 = .ok (.aload_n 0, 1) := by decide +kernel
theorem d_Decimal_fractionCount_10 : decode b_Decimal_fractionCount 10 = .ok (.getfield 29, 3) := by decide +kernel
theorem d_Decimal_fractionCount_13 : decode b_Decimal_fractionCount 13 = .ok (.invokestatic 33, 3) := by decide +kernel
theorem d_Decimal_fractionCount_16 : decode b_Decimal_fractionCount 16 = .ok (.lrem, 1) := by decide +kernel
theorem d_Decimal_fractionCount_17 : decode b_Decimal_fractionCount 17 = .ok (.lstore_n 2, 1) := by decide +kernel
theorem d_Decimal_fractionCount_18 : decode b_Decimal_fractionCount 18 = .ok (.iload_n 1, 1) := by decide +kernel
theorem d_Decimal_fractionCount_19 : decode b_Decimal_fractionCount 19 = .ok (.ifCond .le 25, 3) := by decide +kernel
theorem d_Decimal_fractionCount_22 : decode b_Decimal_fractionCount 22 = .ok (.lload_n 2, 1) := by decide +kernel
theorem d_Decimal_fractionCount_23 : decode b_Decimal_fractionCount 23 = .ok (.ldc2_w 49, 3) := by decide +kernel
theorem d_Decimal_fractionCount_26 : decode b_Decimal_fractionCount 26 = .ok (.lrem, 1) := by decide +kernel
theorem d_Decimal_fractionCount_27 : decode b_Decimal_fractionCount 27 = .ok (.lconst 0, 1) := by decide +kernel
theorem d_Decimal_fractionCount_28 : decode b_Decimal_fractionCount 28 = .ok (.lcmp, 1) := by decide +kernel
theorem d_Decimal_fractionCount_29 : decode b_Decimal_fractionCount 29 = .ok (.ifCond .ne 15, 3) := by decide +kernel
theorem d_Decimal_fractionCount_32 : decode b_Decimal_fractionCount 32 = .ok (.lload_n 2, 1) := by decide +kernel
theorem d_Decimal_fractionCount_33 : decode b_Decimal_fractionCount 33 = .ok (.ldc2_w 49, 3) := by decide +kernel
theorem d_Decimal_fractionCount_36 : decode b_Decimal_fractionCount 36 = .ok (.ldiv, 1) := by decide +kernel
theorem d_Decimal_fractionCount_37 : decode b_Decimal_fractionCount 37 = .ok (.lstore_n 2, 1) := by decide +kernel
theorem d_Decimal_fractionCount_38 : decode b_Decimal_fractionCount 38 = .ok (.iinc 1 (-1), 3) := by decide +kernel
theorem d_Decimal_fractionCount_41 : decode b_Decimal_fractionCount 41 = .ok (.goto (-23), 3) := by decide +kernel
theorem d_Decimal_fractionCount_44 : decode b_Decimal_fractionCount 44 = .ok (.iload_n 1, 1) := by decide +kernel
theorem d_Decimal_fractionCount_45 : decode b_Decimal_fractionCount 45 = .ok (.ireturn, 1) := by decide +kernel
theorem d_Decimal_fractionDigit_0 : decode b_Decimal_fractionDigit 0 = .ok (.iload_n 1, 1) := by decide +kernel
theorem d_Decimal_fractionDigit_1 : decode b_Decimal_fractionDigit 1 = .ok (.aload_n 0, 1) := by decide +kernel
theorem d_Decimal_fractionDigit_2 : decode b_Decimal_fractionDigit 2 = .ok (.getfield 29, 3) := by decide +kernel
theorem d_Decimal_fractionDigit_5 : decode b_Decimal_fractionDigit 5 = .ok (.if_icmp .ge 27, 3) := by decide +kernel
theorem d_Decimal_fractionDigit_8 : decode b_Decimal_fractionDigit 8 = .ok (.aload_n 0, 1) := by decide +kernel
theorem d_Decimal_fractionDigit_9 : decode b_Decimal_fractionDigit 9 = .ok (.getfield 25, 3) := by decide +kernel
theorem d_Decimal_fractionDigit_12 : decode b_Decimal_fractionDigit 12 = .ok (.aload_n 0, 1) := by decide +kernel
theorem d_Decimal_fractionDigit_13 : decode b_Decimal_fractionDigit 13 = .ok (.getfield 29, 3) := by decide +kernel
theorem d_Decimal_fractionDigit_16 : decode b_Decimal_fractionDigit 16 = .ok (.iconst 1, 1) := by decide +kernel
theorem d_Decimal_fractionDigit_17 : decode b_Decimal_fractionDigit 17 = .ok (.isub, 1) := by decide +kernel
theorem d_Decimal_fractionDigit_18 : decode b_Decimal_fractionDigit 18 = .ok (.iload_n 1, 1) := by decide +kernel
theorem d_Decimal_fractionDigit_19 : decode b_Decimal_fractionDigit 19 = .ok (.isub, 1) := by decide +kernel
theorem d_Decimal_fractionDigit_20 : decode b_Decimal_fractionDigit 20 = .ok (.invokestatic 33, 3) := by decide +kernel
theorem d_Decimal_fractionDigit_23 : decode b_Decimal_fractionDigit 23 = .ok (.ldiv, 1) := by decide +kernel
theorem d_Decimal_fractionDigit_24 : decode b_Decimal_fractionDigit 24 = .ok (.ldc2_w 49, 3) := by decide +kernel
theorem d_Decimal_fractionDigit_27 : decode b_Decimal_fractionDigit 27 = .ok (.lrem, 1) := by decide +kernel
theorem d_Decimal_fractionDigit_28 : decode b_Decimal_fractionDigit 28 = .ok (.l2i, 1) := by decide +kernel
theorem d_Decimal_fractionDigit_29 : decode b_Decimal_fractionDigit 29 = .ok (.goto 4, 3) := by decide +kernel
theorem d_Decimal_fractionDigit_32 : decode b_Decimal_fractionDigit 32 = .ok (.iconst 0, 1) := by decide +kernel
theorem d_Decimal_fractionDigit_33 : decode b_Decimal_fractionDigit 33 = .ok (.ireturn, 1) := by decide +kernel
theorem d_NumberWriter_init_0 : decode b_NumberWriter_init 0 = .ok (.aload_n 0, 1) := by decide +kernel
theorem d_NumberWriter_init_1 : decode b_NumberWriter_init 1 = .ok (.invokespecial 3, 3) := by decide +kernel
theorem d_NumberWriter_init_4 : decode b_NumberWriter_init 4 = .ok (.aload_n 0, 1) := by decide +kernel
theorem d_NumberWriter_init_5 : decode b_NumberWriter_init 5 = .ok (.new 9, 3) := by decide +kernel
theorem d_NumberWriter_init_8 : decode b_NumberWriter_init 8 = .ok (.dup, 1) := by decide +kernel
theorem d_NumberWriter_init_9 : decode b_NumberWriter_init 9 = .ok (.invokespecial 11, 3) := by decide +kernel
theorem d_NumberWriter_init_12 : decode b_NumberWriter_init 12 = .ok (.putfield 12, 3) := by decide +kernel
theorem d_NumberWriter_init_15 : decode b_NumberWriter_init 15 = .ok (.aload_n 0, 1) := by decide +kernel
theorem d_NumberWriter_init_16 : decode b_NumberWriter_init 16 = .ok (.iconst 0, 1) := by decide +kernel
theorem d_NumberWriter_init_17 : decode b_NumberWriter_init 17 = .ok (.putfield 18, 3) := by decide +kernel
theorem d_NumberWriter_init_20 : decode b_NumberWriter_init 20 = .ok (.aload_n 0, 1) := by decide +kernel
theorem d_NumberWriter_init_21 : decode b_NumberWriter_init 21 = .ok (.bipush 6, 2) := by decide +kernel
theorem d_NumberWriter_init_23 : decode b_NumberWriter_init 23 = .ok (.newarray .int, 2) := by decide +kernel
theorem d_NumberWriter_init_25 : decode b_NumberWriter_init 25 = .ok (.putfield 22, 3) := by decide +kernel
theorem d_NumberWriter_init_28 : decode b_NumberWriter_init 28 = .ok (.aload_n 0, 1) := by decide +kernel
theorem d_NumberWriter_init_29 : decode b_NumberWriter_init 29 = .ok (.iconst 0, 1) := by decide +kernel
theorem d_NumberWriter_init_30 : decode b_NumberWriter_init 30 = .ok (.putfield 26, 3) := by decide +kernel
theorem d_NumberWriter_init_33 : decode b_NumberWriter_init 33 = .ok (.return_, 1) := by decide +kernel
theorem d_NumberWriter_forgetFields_0 : decode b_NumberWriter_forgetFields 0 = .ok (.aload_n 0, 1) := by decide +kernel
theorem d_NumberWriter_forgetFields_1 : decode b_NumberWriter_forgetFields 1 = .ok (.iconst 0, 1) := by decide +kernel
theorem d_NumberWriter_forgetFields_2 : decode b_NumberWriter_forgetFields 2 = .ok (.putfield 26, 3) := by decide +kernel
theorem d_NumberWriter_forgetFields_5 : decode b_NumberWriter_forgetFields 5 = .ok (.return_, 1) := by decide +kernel
theorem d_NumberWriter_fieldEdge_0 : decode b_NumberWriter_fieldEdge 0 = .ok (.aload_n 0, 1) := by decide +kernel
theorem d_NumberWriter_fieldEdge_1 : decode b_NumberWriter_fieldEdge 1 = .ok (.getfield 26, 3) := by decide +kernel
theorem d_NumberWriter_fieldEdge_4 : decode b_NumberWriter_fieldEdge 4 = .ok (.ifCond .eq 12, 3) := by decide +kernel
theorem d_NumberWriter_fieldEdge_7 : decode b_NumberWriter_fieldEdge 7 = .ok (.iload_n 1, 1) := by decide +kernel
theorem d_NumberWriter_fieldEdge_8 : decode b_NumberWriter_fieldEdge 8 = .ok (.ifCond .lt 8, 3) := by decide +kernel
theorem d_NumberWriter_fieldEdge_11 : decode b_NumberWriter_fieldEdge 11 = .ok (.iload_n 1, 1) := by decide +kernel
theorem d_NumberWriter_fieldEdge_12 : decode b_NumberWriter_fieldEdge 12 = .ok (.iconst 2, 1) := by decide +kernel
theorem d_NumberWriter_fieldEdge_13 : decode b_NumberWriter_fieldEdge 13 = .ok (.if_icmp .le 5, 3) := by decide +kernel
theorem d_NumberWriter_fieldEdge_16 : decode b_NumberWriter_fieldEdge 16 = .ok (.iconst (-1), 1) := by decide +kernel
theorem d_NumberWriter_fieldEdge_17 : decode b_NumberWriter_fieldEdge 17 = .ok (.ireturn, 1) := by decide +kernel
theorem d_NumberWriter_fieldEdge_18 : decode b_NumberWriter_fieldEdge 18 = .ok (.aload_n 0, 1) := by decide +kernel
theorem d_NumberWriter_fieldEdge_19 : decode b_NumberWriter_fieldEdge 19 = .ok (.getfield 22, 3) := by decide +kernel
theorem d_NumberWriter_fieldEdge_22 : decode b_NumberWriter_fieldEdge 22 = .ok (.iload_n 2, 1) := by decide +kernel
theorem d_NumberWriter_fieldEdge_23 : decode b_NumberWriter_fieldEdge 23 = .ok (.ifCond .eq 11, 3) := by decide +kernel
theorem d_NumberWriter_fieldEdge_26 : decode b_NumberWriter_fieldEdge 26 = .ok (.iconst 2, 1) := by decide +kernel
theorem d_NumberWriter_fieldEdge_27 : decode b_NumberWriter_fieldEdge 27 = .ok (.iload_n 1, 1) := by decide +kernel
theorem d_NumberWriter_fieldEdge_28 : decode b_NumberWriter_fieldEdge 28 = .ok (.imul, 1) := by decide +kernel
theorem d_NumberWriter_fieldEdge_29 : decode b_NumberWriter_fieldEdge 29 = .ok (.iconst 1, 1) := by decide +kernel
theorem d_NumberWriter_fieldEdge_30 : decode b_NumberWriter_fieldEdge 30 = .ok (.iadd, 1) := by decide +kernel
theorem d_NumberWriter_fieldEdge_31 : decode b_NumberWriter_fieldEdge 31 = .ok (.goto 6, 3) := by decide +kernel
theorem d_NumberWriter_fieldEdge_34 : decode b_NumberWriter_fieldEdge 34 = .ok (.iconst 2, 1) := by decide +kernel
theorem d_NumberWriter_fieldEdge_35 : decode b_NumberWriter_fieldEdge 35 = .ok (.iload_n 1, 1) := by decide +kernel
theorem d_NumberWriter_fieldEdge_36 : decode b_NumberWriter_fieldEdge 36 = .ok (.imul, 1) := by decide +kernel
theorem d_NumberWriter_fieldEdge_37 : decode b_NumberWriter_fieldEdge 37 = .ok (.iaload, 1) := by decide +kernel
theorem d_NumberWriter_fieldEdge_38 : decode b_NumberWriter_fieldEdge 38 = .ok (.ireturn, 1) := by decide +kernel
theorem d_NumberWriter_prepare_0 : decode b_NumberWriter_prepare 0 = .ok (.aload_n 0, 1) := by decide +kernel
theorem d_NumberWriter_prepare_1 : decode b_NumberWriter_prepare 1 = .ok (.getfield 12, 3) := by decide +kernel
theorem d_NumberWriter_prepare_4 : decode b_NumberWriter_prepare 4 = .ok (.lload_n 2, 1) := by decide +kernel
theorem d_NumberWriter_prepare_5 : decode b_NumberWriter_prepare 5 = .ok (.iload 4, 2) := by decide +kernel
theorem d_NumberWriter_prepare_7 : decode b_NumberWriter_prepare 7 = .ok (.invokevirtual 30, 3) := by decide +kernel
theorem d_NumberWriter_prepare_10 : decode b_NumberWriter_prepare 10 = .ok (.aload_n 0, 1) := by decide +kernel
theorem d_NumberWriter_prepare_11 : decode b_NumberWriter_prepare 11 = .ok (.iconst 0, 1) := by decide +kernel
theorem d_NumberWriter_prepare_12 : decode b_NumberWriter_prepare 12 = .ok (.putfield 18, 3) := by decide +kernel
theorem d_NumberWriter_prepare_15 : decode b_NumberWriter_prepare 15 = .ok (.aload_n 1, 1) := by decide +kernel
theorem d_NumberWriter_prepare_16 : decode b_NumberWriter_prepare 16 = .ok (.getfield 34, 3) := by decide +kernel
theorem d_NumberWriter_prepare_19 : decode b_NumberWriter_prepare 19 = .ok (.ifCond .eq 9, 3) := by decide +kernel
theorem d_NumberWriter_prepare_22 : decode b_NumberWriter_prepare 22 = .ok (.lload_n 2, 1) := by decide +kernel
theorem d_NumberWriter_prepare_23 : decode b_NumberWriter_prepare 23 = .ok (.lconst 0, 1) := by decide +kernel
theorem d_NumberWriter_prepare_24 : decode b_NumberWriter_prepare 24 = .ok (.lcmp, 1) := by decide +kernel
theorem d_NumberWriter_prepare_25 : decode b_NumberWriter_prepare 25 = .ok (.ifCond .ne 17, 3) := by decide +kernel
theorem d_NumberWriter_prepare_28 : decode b_NumberWriter_prepare 28 = .ok (.aload_n 0, 1) := by decide +kernel
theorem d_NumberWriter_prepare_29 : decode b_NumberWriter_prepare 29 = .ok (.getfield 12, 3) := by decide +kernel
theorem d_NumberWriter_prepare_32 : decode b_NumberWriter_prepare 32 = .ok (.aload_n 1, 1) := by decide +kernel
theorem d_NumberWriter_prepare_33 : decode b_NumberWriter_prepare 33 = .ok (.getfield 39, 3) := by decide +kernel
theorem d_NumberWriter_prepare_36 : decode b_NumberWriter_prepare 36 = .ok (.iload 5, 2) := by decide +kernel
theorem d_NumberWriter_prepare_38 : decode b_NumberWriter_prepare 38 = .ok (.invokevirtual 42, 3) := by decide +kernel
theorem d_NumberWriter_prepare_41 : decode b_NumberWriter_prepare 41 = .ok (.ireturn, 1) := by decide +kernel
theorem d_NumberWriter_prepare_42 : decode b_NumberWriter_prepare 42 = .ok (.aload_n 0, 1) := by decide +kernel
theorem d_NumberWriter_prepare_43 : decode b_NumberWriter_prepare 43 = .ok (.aload_n 1, 1) := by decide +kernel
theorem d_NumberWriter_prepare_44 : decode b_NumberWriter_prepare 44 = .ok (.getfield 46, 3) := by decide +kernel
theorem d_NumberWriter_prepare_47 : decode b_NumberWriter_prepare 47 = .ok (.invokevirtual 49, 3) := by decide +kernel
theorem d_NumberWriter_prepare_50 : decode b_NumberWriter_prepare 50 = .ok (.aload_n 0, 1) := by decide +kernel
theorem d_NumberWriter_prepare_51 : decode b_NumberWriter_prepare 51 = .ok (.getfield 12, 3) := by decide +kernel
theorem d_NumberWriter_prepare_54 : decode b_NumberWriter_prepare 54 = .ok (.aload_n 1, 1) := by decide +kernel
theorem d_NumberWriter_prepare_55 : decode b_NumberWriter_prepare 55 = .ok (.getfield 39, 3) := by decide +kernel
theorem d_NumberWriter_prepare_58 : decode b_NumberWriter_prepare 58 = .ok (.iload 5, 2) := by decide +kernel
theorem d_NumberWriter_prepare_60 : decode b_NumberWriter_prepare 60 = .ok (.invokevirtual 42, 3) := by decide +kernel
theorem d_NumberWriter_prepare_63 : decode b_NumberWriter_prepare 63 = .ok (.ifCond .ne 5, 3) := by decide +kernel
theorem d_NumberWriter_prepare_66 : decode b_NumberWriter_prepare 66 = .ok (.iconst 0, 1) := by decide +kernel
theorem d_NumberWriter_prepare_67 : decode b_NumberWriter_prepare 67 = .ok (.ireturn, 1) := by decide +kernel
theorem d_NumberWriter_prepare_68 : decode b_NumberWriter_prepare 68 = .ok (.aload_n 0, 1) := by decide +kernel
theorem d_NumberWriter_prepare_69 : decode b_NumberWriter_prepare 69 = .ok (.aload_n 1, 1) := by decide +kernel
theorem d_NumberWriter_prepare_70 : decode b_NumberWriter_prepare 70 = .ok (.getfield 46, 3) := by decide +kernel
theorem d_NumberWriter_prepare_73 : decode b_NumberWriter_prepare 73 = .ok (.invokevirtual 53, 3) := by decide +kernel
theorem d_NumberWriter_prepare_76 : decode b_NumberWriter_prepare 76 = .ok (.iconst 1, 1) := by decide +kernel
theorem d_NumberWriter_prepare_77 : decode b_NumberWriter_prepare 77 = .ok (.ireturn, 1) := by decide +kernel
theorem d_NumberWriter_takeExponent_0 : decode b_NumberWriter_takeExponent 0 = .ok (.aload_n 0, 1) := by decide +kernel
theorem d_NumberWriter_takeExponent_1 : decode b_NumberWriter_takeExponent 1 = .ok (.getfield 12, 3) := by decide +kernel
theorem d_NumberWriter_takeExponent_4 : decode b_NumberWriter_takeExponent 4 = .ok (.getfield 56, 3) := by decide +kernel
theorem d_NumberWriter_takeExponent_7 : decode b_NumberWriter_takeExponent 7 = .ok (.invokestatic 60, 3) := by decide +kernel
theorem d_NumberWriter_takeExponent_10 : decode b_NumberWriter_takeExponent 10 = .ok (.istore_n 2, 1) := by decide +kernel
theorem d_NumberWriter_takeExponent_11 : decode b_NumberWriter_takeExponent 11 = .ok (.aload_n 0, 1) := by decide +kernel
theorem d_NumberWriter_takeExponent_12 : decode b_NumberWriter_takeExponent 12 = .ok (.iload_n 2, 1) := by decide +kernel
theorem d_NumberWriter_takeExponent_13 : decode b_NumberWriter_takeExponent 13 = .ok (.aload_n 0, 1) := by decide +kernel
theorem d_NumberWriter_takeExponent_14 : decode b_NumberWriter_takeExponent 14 = .ok (.getfield 12, 3) := by decide +kernel
theorem d_NumberWriter_takeExponent_17 : decode b_NumberWriter_takeExponent 17 = .ok (.getfield 64, 3) := by decide +kernel
theorem d_NumberWriter_takeExponent_20 : decode b_NumberWriter_takeExponent 20 = .ok (.isub, 1) := by decide +kernel
theorem d_NumberWriter_takeExponent_21 : decode b_NumberWriter_takeExponent 21 = .ok (.iload_n 1, 1) := by decide +kernel
theorem d_NumberWriter_takeExponent_22 : decode b_NumberWriter_takeExponent 22 = .ok (.isub, 1) := by decide +kernel
theorem d_NumberWriter_takeExponent_23 : decode b_NumberWriter_takeExponent 23 = .ok (.putfield 18, 3) := by decide +kernel
theorem d_NumberWriter_takeExponent_26 : decode b_NumberWriter_takeExponent 26 = .ok (.iload_n 2, 1) := by decide +kernel
theorem d_NumberWriter_takeExponent_27 : decode b_NumberWriter_takeExponent 27 = .ok (.iload_n 1, 1) := by decide +kernel
theorem d_NumberWriter_takeExponent_28 : decode b_NumberWriter_takeExponent 28 = .ok (.if_icmp .ge 35, 3) := by decide +kernel
theorem d_NumberWriter_takeExponent_31 : decode b_NumberWriter_takeExponent 31 = .ok (.aload_n 0, 1) := by decide +kernel
theorem d_NumberWriter_takeExponent_32 : decode b_NumberWriter_takeExponent 32 = .ok (.getfield 12, 3) := by decide +kernel
theorem d_NumberWriter_takeExponent_35 : decode b_NumberWriter_takeExponent 35 = .ok (.aload_n 0, 1) := by decide +kernel
theorem d_NumberWriter_takeExponent_36 : decode b_NumberWriter_takeExponent 36 = .ok (.getfield 12, 3) := by decide +kernel
theorem d_NumberWriter_takeExponent_39 : decode b_NumberWriter_takeExponent 39 = .ok (.getfield 56, 3) := by decide +kernel
theorem d_NumberWriter_takeExponent_42 : decode b_NumberWriter_takeExponent 42 = .ok (.iload_n 1, 1) := by decide +kernel
theorem d_NumberWriter_takeExponent_43 : decode b_NumberWriter_takeExponent 43 = .ok (.iload_n 2, 1) := by decide +kernel
theorem d_NumberWriter_takeExponent_44 : decode b_NumberWriter_takeExponent 44 = .ok (.isub, 1) := by decide +kernel
theorem d_NumberWriter_takeExponent_45 : decode b_NumberWriter_takeExponent 45 = .ok (.invokestatic 67, 3) := by decide +kernel
theorem d_NumberWriter_takeExponent_48 : decode b_NumberWriter_takeExponent 48 = .ok (.lmul, 1) := by decide +kernel
theorem d_NumberWriter_takeExponent_49 : decode b_NumberWriter_takeExponent 49 = .ok (.putfield 56, 3) := by decide +kernel
theorem d_NumberWriter_takeExponent_52 : decode b_NumberWriter_takeExponent 52 = .ok (.aload_n 0, 1) := by decide +kernel
theorem d_NumberWriter_takeExponent_53 : decode b_NumberWriter_takeExponent 53 = .ok (.getfield 12, 3) := by decide +kernel
theorem d_NumberWriter_takeExponent_56 : decode b_NumberWriter_takeExponent 56 = .ok (.iconst 0, 1) := by decide +kernel
theorem d_NumberWriter_takeExponent_57 : decode b_NumberWriter_takeExponent 57 = .ok (.putfield 64, 3) := by decide +kernel
theorem d_NumberWriter_takeExponent_60 : decode b_NumberWriter_takeExponent 60 = .ok (.goto 13, 3) := by decide +kernel
theorem d_NumberWriter_takeExponent_63 : decode b_NumberWriter_takeExponent 63 = .ok (.aload_n 0, 1) := by decide +kernel
theorem d_NumberWriter_takeExponent_64 : decode b_NumberWriter_takeExponent 64 = .ok (.getfield 12, 3) := by decide +kernel
theorem d_NumberWriter_takeExponent_67 : decode b_NumberWriter_takeExponent 67 = .ok (.iload_n 2, 1) := by decide +kernel
theorem d_NumberWriter_takeExponent_68 : decode b_NumberWriter_takeExponent 68 = .ok (.iload_n 1, 1) := by decide +kernel
theorem d_NumberWriter_takeExponent_69 : decode b_NumberWriter_takeExponent 69 = .ok (.isub, 1) := by decide +kernel
theorem d_NumberWriter_takeExponent_70 : decode b_NumberWriter_takeExponent 70 = .ok (.putfield 64, 3) := by decide +kernel
theorem d_NumberWriter_takeExponent_73 : decode b_NumberWriter_takeExponent 73 = .ok (.return_, 1) := by decide +kernel
theorem d_NumberWriter_carryExponent_0 : decode b_NumberWriter_carryExponent 0 = .ok (.aload_n 0, 1) := by decide +kernel
theorem d_NumberWriter_carryExponent_1 : decode b_NumberWriter_carryExponent 1 = .ok (.getfield 12, 3) := by decide +kernel
theorem d_NumberWriter_carryExponent_4 : decode b_NumberWriter_carryExponent 4 = .ok (.invokevirtual 71, 3) := by decide +kernel
theorem d_NumberWriter_carryExponent_7 : decode b_NumberWriter_carryExponent 7 = .ok (.iload_n 1, 1) := by decide +kernel
theorem d_NumberWriter_carryExponent_8 : decode b_NumberWriter_carryExponent 8 = .ok (.invokestatic 67, 3) := by decide +kernel
theorem d_NumberWriter_carryExponent_11 : decode b_NumberWriter_carryExponent 11 = .ok (.lcmp, 1) := by decide +kernel
theorem d_NumberWriter_carryExponent_12 : decode b_NumberWriter_carryExponent 12 = .ok (.ifCond .lt 34, 3) := by decide +kernel
theorem d_NumberWriter_carryExponent_15 : decode b_NumberWriter_carryExponent 15 = .ok (.aload_n 0, 1) := by decide +kernel
theorem d_NumberWriter_carryExponent_16 : decode b_NumberWriter_carryExponent 16 = .ok (.getfield 12, 3) := by decide +kernel
theorem d_NumberWriter_carryExponent_19 : decode b_NumberWriter_carryExponent 19 = .ok (.iload_n 1, 1) := by decide +kernel
theorem d_NumberWriter_carryExponent_20 : decode b_NumberWriter_carryExponent 20 = .ok (.iconst 1, 1) := by decide +kernel
theorem d_NumberWriter_carryExponent_21 : decode b_NumberWriter_carryExponent 21 = .ok (.isub, 1) := by decide +kernel
theorem d_NumberWriter_carryExponent_22 : decode b_NumberWriter_carryExponent 22 = .ok (.invokestatic 67, 3) := by decide +kernel
theorem d_NumberWriter_carryExponent_25 : decode b_NumberWriter_carryExponent 25 = .ok (.putfield 56, 3) := by decide +kernel
theorem d_NumberWriter_carryExponent_28 : decode b_NumberWriter_carryExponent 28 = .ok (.aload_n 0, 1) := by decide +kernel
theorem d_NumberWriter_carryExponent_29 : decode b_NumberWriter_carryExponent 29 = .ok (.getfield 12, 3) := by decide +kernel
theorem d_NumberWriter_carryExponent_32 : decode b_NumberWriter_carryExponent 32 = .ok (.iconst 0, 1) := by decide +kernel
theorem d_NumberWriter_carryExponent_33 : decode b_NumberWriter_carryExponent 33 = .ok (.putfield 64, 3) := by decide +kernel
theorem d_NumberWriter_carryExponent_36 : decode b_NumberWriter_carryExponent 36 = .ok (.aload_n 0, 1) := by decide +kernel
theorem d_NumberWriter_carryExponent_37 : decode b_NumberWriter_carryExponent 37 = .ok (.dup, 1) := by decide +kernel
theorem d_NumberWriter_carryExponent_38 : decode b_NumberWriter_carryExponent 38 = .ok (.getfield 18, 3) := by decide +kernel
theorem d_NumberWriter_carryExponent_41 : decode b_NumberWriter_carryExponent 41 = .ok (.iconst 1, 1) := by decide +kernel
theorem d_NumberWriter_carryExponent_42 : decode b_NumberWriter_carryExponent 42 = .ok (.iadd, 1) := by decide +kernel
theorem d_NumberWriter_carryExponent_43 : decode b_NumberWriter_carryExponent 43 = .ok (.putfield 18, 3) := by decide +kernel
theorem d_NumberWriter_carryExponent_46 : decode b_NumberWriter_carryExponent 46 = .ok (.return_, 1) := by decide +kernel
theorem d_NumberWriter_write_0 : decode b_NumberWriter_write 0 = .ok (.aload_n 0, 1) := by decide +kernel
theorem d_NumberWriter_write_1 : decode b_NumberWriter_write 1 = .ok (.getfield 12, 3) := by decide +kernel
theorem d_NumberWriter_write_4 : decode b_NumberWriter_write 4 = .ok (.invokevirtual 75, 3) := by decide +kernel
theorem d_NumberWriter_write_7 : decode b_NumberWriter_write 7 = .ok (.ifCond .eq 10, 3) := by decide +kernel
theorem d_NumberWriter_write_10 : decode b_NumberWriter_write 10 = .ok (.aload_n 1, 1) := by decide +kernel
theorem d_NumberWriter_write_11 : decode b_NumberWriter_write 11 = .ok (.getfield 79, 3) := by decide +kernel
theorem d_NumberWriter_write_14 : decode b_NumberWriter_write 14 = .ok (.goto 7, 3) := by decide +kernel
theorem d_NumberWriter_write_17 : decode b_NumberWriter_write 17 = .ok (.aload_n 1, 1) := by decide +kernel
theorem d_NumberWriter_write_18 : decode b_NumberWriter_write 18 = .ok (.getfield 85, 3) := by decide +kernel
theorem d_NumberWriter_write_21 : decode b_NumberWriter_write 21 = .ok (.astore_n 3, 1) := by decide +kernel
theorem d_NumberWriter_write_22 : decode b_NumberWriter_write 22 = .ok (.aload_n 1, 1) := by decide +kernel
theorem d_NumberWriter_write_23 : decode b_NumberWriter_write 23 = .ok (.getfield 85, 3) := by decide +kernel
theorem d_NumberWriter_write_26 : decode b_NumberWriter_write 26 = .ok (.getfield 88, 3) := by decide +kernel
theorem d_NumberWriter_write_29 : decode b_NumberWriter_write 29 = .ok (.astore 4, 2) := by decide +kernel
theorem d_NumberWriter_write_31 : decode b_NumberWriter_write 31 = .ok (.aload_n 2, 1) := by decide +kernel
theorem d_NumberWriter_write_32 : decode b_NumberWriter_write 32 = .ok (.invokevirtual 94, 3) := by decide +kernel
theorem d_NumberWriter_write_35 : decode b_NumberWriter_write 35 = .ok (.aload_n 3, 1) := by decide +kernel
theorem d_NumberWriter_write_36 : decode b_NumberWriter_write 36 = .ok (.getfield 99, 3) := by decide +kernel
theorem d_NumberWriter_write_39 : decode b_NumberWriter_write 39 = .ok (.aload_n 2, 1) := by decide +kernel
theorem d_NumberWriter_write_40 : decode b_NumberWriter_write 40 = .ok (.invokevirtual 103, 3) := by decide +kernel
theorem d_NumberWriter_write_43 : decode b_NumberWriter_write 43 = .ok (.aload_n 0, 1) := by decide +kernel
theorem d_NumberWriter_write_44 : decode b_NumberWriter_write 44 = .ok (.aload 4, 2) := by decide +kernel
theorem d_NumberWriter_write_46 : decode b_NumberWriter_write 46 = .ok (.aload_n 2, 1) := by decide +kernel
theorem d_NumberWriter_write_47 : decode b_NumberWriter_write 47 = .ok (.invokevirtual 109, 3) := by decide +kernel
theorem d_NumberWriter_write_50 : decode b_NumberWriter_write 50 = .ok (.aload_n 0, 1) := by decide +kernel
theorem d_NumberWriter_write_51 : decode b_NumberWriter_write 51 = .ok (.aload 4, 2) := by decide +kernel
theorem d_NumberWriter_write_53 : decode b_NumberWriter_write 53 = .ok (.aload_n 2, 1) := by decide +kernel
theorem d_NumberWriter_write_54 : decode b_NumberWriter_write 54 = .ok (.invokevirtual 113, 3) := by decide +kernel
theorem d_NumberWriter_write_57 : decode b_NumberWriter_write 57 = .ok (.aload_n 0, 1) := by decide +kernel
theorem d_NumberWriter_write_58 : decode b_NumberWriter_write 58 = .ok (.aload 4, 2) := by decide +kernel
theorem d_NumberWriter_write_60 : decode b_NumberWriter_write 60 = .ok (.aload_n 2, 1) := by decide +kernel
theorem d_NumberWriter_write_61 : decode b_NumberWriter_write 61 = .ok (.invokevirtual 116, 3) := by decide +kernel
theorem d_NumberWriter_write_64 : decode b_NumberWriter_write 64 = .ok (.aload_n 3, 1) := by decide +kernel
theorem d_NumberWriter_write_65 : decode b_NumberWriter_write 65 = .ok (.getfield 119, 3) := by decide +kernel
theorem d_NumberWriter_write_68 : decode b_NumberWriter_write 68 = .ok (.aload_n 2, 1) := by decide +kernel
theorem d_NumberWriter_write_69 : decode b_NumberWriter_write 69 = .ok (.invokevirtual 103, 3) := by decide +kernel
theorem d_NumberWriter_write_72 : decode b_NumberWriter_write 72 = .ok (.aload_n 0, 1) := by decide +kernel
theorem d_NumberWriter_write_73 : decode b_NumberWriter_write 73 = .ok (.iconst 1, 1) := by decide +kernel
theorem d_NumberWriter_write_74 : decode b_NumberWriter_write 74 = .ok (.putfield 26, 3) := by decide +kernel
theorem d_NumberWriter_write_77 : decode b_NumberWriter_write 77 = .ok (.return_, 1) := by decide +kernel
theorem d_NumberWriter_shownFraction_0 : decode b_NumberWriter_shownFraction 0 = .ok (.aload_n 0, 1) := by decide +kernel
theorem d_NumberWriter_shownFraction_1 : decode b_NumberWriter_shownFraction 1 = .ok (.getfield 12, 3) := by decide +kernel
theorem d_NumberWriter_shownFraction_4 : decode b_NumberWriter_shownFraction 4 = .ok (.invokevirtual 122, 3) := by decide +kernel
theorem d_NumberWriter_shownFraction_7 : decode b_NumberWriter_shownFraction 7 = .ok (.aload_n 1, 1) := by decide +kernel
theorem d_NumberWriter_shownFraction_8 : decode b_NumberWriter_shownFraction 8 = .ok (.getfield 126, 3) := by decide +kernel
theorem d_NumberWriter_shownFraction_11 : decode b_NumberWriter_shownFraction 11 = .ok (.invokestatic 129, 3) := by decide +kernel
theorem d_NumberWriter_shownFraction_14 : decode b_NumberWriter_shownFraction 14 = .ok (.ireturn, 1) := by decide +kernel
theorem d_NumberWriter_writeInteger_0 : decode b_NumberWriter_writeInteger 0 = .ok (.aload_n 0, 1) := by decide +kernel
theorem d_NumberWriter_writeInteger_1 : decode b_NumberWriter_writeInteger 1 = .ok (.getfield 22, 3) := by decide +kernel
theorem d_NumberWriter_writeInteger_4 : decode b_NumberWriter_writeInteger 4 = .ok (.iconst 0, 1) := by decide +kernel
theorem d_NumberWriter_writeInteger_5 : decode b_NumberWriter_writeInteger 5 = .ok (.aload_n 2, 1) := by decide +kernel
theorem d_NumberWriter_writeInteger_6 : decode b_NumberWriter_writeInteger 6 = .ok (.invokevirtual 135, 3) := by decide +kernel
theorem d_NumberWriter_writeInteger_9 : decode b_NumberWriter_writeInteger 9 = .ok (.iastore, 1) := by decide +kernel
theorem d_NumberWriter_writeInteger_10 : decode b_NumberWriter_writeInteger 10 = .ok (.aload_n 0, 1) := by decide +kernel
theorem d_NumberWriter_writeInteger_11 : decode b_NumberWriter_writeInteger 11 = .ok (.getfield 12, 3) := by decide +kernel
theorem d_NumberWriter_writeInteger_14 : decode b_NumberWriter_writeInteger 14 = .ok (.invokevirtual 71, 3) := by decide +kernel
theorem d_NumberWriter_writeInteger_17 : decode b_NumberWriter_writeInteger 17 = .ok (.invokestatic 60, 3) := by decide +kernel
theorem d_NumberWriter_writeInteger_20 : decode b_NumberWriter_writeInteger 20 = .ok (.aload_n 1, 1) := by decide +kernel
theorem d_NumberWriter_writeInteger_21 : decode b_NumberWriter_writeInteger 21 = .ok (.getfield 46, 3) := by decide +kernel
theorem d_NumberWriter_writeInteger_24 : decode b_NumberWriter_writeInteger 24 = .ok (.invokestatic 129, 3) := by decide +kernel
theorem d_NumberWriter_writeInteger_27 : decode b_NumberWriter_writeInteger 27 = .ok (.istore_n 3, 1) := by decide +kernel
theorem d_NumberWriter_writeInteger_28 : decode b_NumberWriter_writeInteger 28 = .ok (.iload_n 3, 1) := by decide +kernel
theorem d_NumberWriter_writeInteger_29 : decode b_NumberWriter_writeInteger 29 = .ok (.ifCond .ne 13, 3) := by decide +kernel
theorem d_NumberWriter_writeInteger_32 : decode b_NumberWriter_writeInteger 32 = .ok (.aload_n 0, 1) := by decide +kernel
theorem d_NumberWriter_writeInteger_33 : decode b_NumberWriter_writeInteger 33 = .ok (.aload_n 1, 1) := by decide +kernel
theorem d_NumberWriter_writeInteger_34 : decode b_NumberWriter_writeInteger 34 = .ok (.invokevirtual 138, 3) := by decide +kernel
theorem d_NumberWriter_writeInteger_37 : decode b_NumberWriter_writeInteger 37 = .ok (.ifCond .ne 5, 3) := by decide +kernel
theorem d_NumberWriter_writeInteger_40 : decode b_NumberWriter_writeInteger 40 = .ok (.iconst 1, 1) := by decide +kernel
theorem d_NumberWriter_writeInteger_41 : decode b_NumberWriter_writeInteger 41 = .ok (.istore_n 3, 1) := by decide +kernel
theorem d_NumberWriter_writeInteger_42 : decode b_NumberWriter_writeInteger 42 = .ok (.aload_n 0, 1) := by decide +kernel
theorem d_NumberWriter_writeInteger_43 : decode b_NumberWriter_writeInteger 43 = .ok (.getfield 12, 3) := by decide +kernel
theorem d_NumberWriter_writeInteger_46 : decode b_NumberWriter_writeInteger 46 = .ok (.invokevirtual 71, 3) := by decide +kernel
theorem d_NumberWriter_writeInteger_49 : decode b_NumberWriter_writeInteger 49 = .ok (.iload_n 3, 1) := by decide +kernel
theorem d_NumberWriter_writeInteger_50 : decode b_NumberWriter_writeInteger 50 = .ok (.aload_n 1, 1) := by decide +kernel
theorem d_NumberWriter_writeInteger_51 : decode b_NumberWriter_writeInteger 51 = .ok (.getfield 142, 3) := by decide +kernel
theorem d_NumberWriter_writeInteger_54 : decode b_NumberWriter_writeInteger 54 = .ok (.aload_n 2, 1) := by decide +kernel
theorem d_NumberWriter_writeInteger_55 : decode b_NumberWriter_writeInteger 55 = .ok (.invokestatic 145, 3) := by decide +kernel
theorem d_NumberWriter_writeInteger_58 : decode b_NumberWriter_writeInteger 58 = .ok (.aload_n 0, 1) := by decide +kernel
theorem d_NumberWriter_writeInteger_59 : decode b_NumberWriter_writeInteger 59 = .ok (.getfield 22, 3) := by decide +kernel
theorem d_NumberWriter_writeInteger_62 : decode b_NumberWriter_writeInteger 62 = .ok (.iconst 1, 1) := by decide +kernel
theorem d_NumberWriter_writeInteger_63 : decode b_NumberWriter_writeInteger 63 = .ok (.aload_n 2, 1) := by decide +kernel
theorem d_NumberWriter_writeInteger_64 : decode b_NumberWriter_writeInteger 64 = .ok (.invokevirtual 135, 3) := by decide +kernel
theorem d_NumberWriter_writeInteger_67 : decode b_NumberWriter_writeInteger 67 = .ok (.iastore, 1) := by decide +kernel
theorem d_NumberWriter_writeInteger_68 : decode b_NumberWriter_writeInteger 68 = .ok (.return_, 1) := by decide +kernel
theorem d_NumberWriter_writeFraction_0 : decode b_NumberWriter_writeFraction 0 = .ok (.aload_n 0, 1) := by decide +kernel
theorem d_NumberWriter_writeFraction_1 : decode b_NumberWriter_writeFraction 1 = .ok (.aload_n 1, 1) := by decide +kernel
theorem d_NumberWriter_writeFraction_2 : decode b_NumberWriter_writeFraction 2 = .ok (.invokevirtual 138, 3) := by decide +kernel
theorem d_NumberWriter_writeFraction_5 : decode b_NumberWriter_writeFraction 5 = .ok (.istore_n 3, 1) := by decide +kernel
theorem d_NumberWriter_writeFraction_6 : decode b_NumberWriter_writeFraction 6 = .ok (.iload_n 3, 1) := by decide +kernel
theorem d_NumberWriter_writeFraction_7 : decode b_NumberWriter_writeFraction 7 = .ok (.ifCond .le 10, 3) := by decide +kernel
theorem d_NumberWriter_writeFraction_10 : decode b_NumberWriter_writeFraction 10 = .ok (.aload_n 2, 1) := by decide +kernel
theorem d_NumberWriter_writeFraction_11 : decode b_NumberWriter_writeFraction 11 = .ok (.bipush 46, 2) := by decide +kernel
theorem d_NumberWriter_writeFraction_13 : decode b_NumberWriter_writeFraction 13 = .ok (.invokevirtual 149, 3) := by decide +kernel
theorem d_NumberWriter_writeFraction_16 : decode b_NumberWriter_writeFraction 16 = .ok (.pop, 1) := by decide +kernel
theorem d_NumberWriter_writeFraction_17 : decode b_NumberWriter_writeFraction 17 = .ok (.aload_n 0, 1) := by decide +kernel
theorem d_NumberWriter_writeFraction_18 : decode b_NumberWriter_writeFraction 18 = .ok (.getfield 22, 3) := by decide +kernel
theorem d_NumberWriter_writeFraction_21 : decode b_NumberWriter_writeFraction 21 = .ok (.iconst 2, 1) := by decide +kernel
theorem d_NumberWriter_writeFraction_22 : decode b_NumberWriter_writeFraction 22 = .ok (.aload_n 2, 1) := by decide +kernel
theorem d_NumberWriter_writeFraction_23 : decode b_NumberWriter_writeFraction 23 = .ok (.invokevirtual 135, 3) := by decide +kernel
theorem d_NumberWriter_writeFraction_26 : decode b_NumberWriter_writeFraction 26 = .ok (.iastore, 1) := by decide +kernel
theorem d_NumberWriter_writeFraction_27 : decode b_NumberWriter_writeFraction 27 = .ok (.iconst 0, 1) := by decide +kernel
theorem d_NumberWriter_writeFraction_28 : decode b_NumberWriter_writeFraction 28 = .ok (.istore 4, 2) := by decide +kernel
theorem d_NumberWriter_writeFraction_30 : decode b_NumberWriter_writeFraction 30 = .ok (.iload 4, 2) := by decide +kernel
theorem d_NumberWriter_writeFraction_32 : decode b_NumberWriter_writeFraction 32 = .ok (.iload_n 3, 1) := by decide +kernel
theorem d_NumberWriter_writeFraction_33 : decode b_NumberWriter_writeFraction 33 = .ok (.if_icmp .ge 27, 3) := by decide +kernel
theorem d_NumberWriter_writeFraction_36 : decode b_NumberWriter_writeFraction 36 = .ok (.aload_n 2, 1) := by decide +kernel
theorem d_NumberWriter_writeFraction_37 : decode b_NumberWriter_writeFraction 37 = .ok (.bipush 48, 2) := by decide +kernel
theorem d_NumberWriter_writeFraction_39 : decode b_NumberWriter_writeFraction 39 = .ok (.aload_n 0, 1) := by decide +kernel
theorem d_NumberWriter_writeFraction_40 : decode b_NumberWriter_writeFraction 40 = .ok (.getfield 12, 3) := by decide +kernel
theorem d_NumberWriter_writeFraction_43 : decode b_NumberWriter_writeFraction 43 = .ok (.iload 4, 2) := by decide +kernel
theorem d_NumberWriter_writeFraction_45 : decode b_NumberWriter_writeFraction 45 = .ok (.invokevirtual 153, 3) := by decide +kernel
theorem d_NumberWriter_writeFraction_48 : decode b_NumberWriter_writeFraction 48 = .ok (.iadd, 1) := by decide +kernel
theorem d_NumberWriter_writeFraction_49 : decode b_NumberWriter_writeFraction 49 = .ok (.i2c, 1) := by decide +kernel
theorem d_NumberWriter_writeFraction_50 : decode b_NumberWriter_writeFraction 50 = .ok (.invokevirtual 149, 3) := by decide +kernel
theorem d_NumberWriter_writeFraction_53 : decode b_NumberWriter_writeFraction 53 = .ok (.pop, 1) := by decide +kernel
theorem d_NumberWriter_writeFraction_54 : decode b_NumberWriter_writeFraction 54 = .ok (.iinc 4 1, 3) := by decide +kernel
theorem d_NumberWriter_writeFraction_57 : decode b_NumberWriter_writeFraction 57 = .ok (.goto (-27), 3) := by decide +kernel
theorem d_NumberWriter_writeFraction_60 : decode b_NumberWriter_writeFraction 60 = .ok (.aload_n 0, 1) := by decide +kernel
theorem d_NumberWriter_writeFraction_61 : decode b_NumberWriter_writeFraction 61 = .ok (.getfield 22, 3) := by decide +kernel
theorem d_NumberWriter_writeFraction_64 : decode b_NumberWriter_writeFraction 64 = .ok (.iconst 3, 1) := by decide +kernel
theorem d_NumberWriter_writeFraction_65 : decode b_NumberWriter_writeFraction 65 = .ok (.aload_n 2, 1) := by decide +kernel
theorem d_NumberWriter_writeFraction_66 : decode b_NumberWriter_writeFraction 66 = .ok (.invokevirtual 135, 3) := by decide +kernel
theorem d_NumberWriter_writeFraction_69 : decode b_NumberWriter_writeFraction 69 = .ok (.iastore, 1) := by decide +kernel
theorem d_NumberWriter_writeFraction_70 : decode b_NumberWriter_writeFraction 70 = .ok (.return_, 1) := by decide +kernel
end
section
theorem d_NumberWriter_writeExponent_0 : decode b_NumberWriter_writeExponent 0 = .ok (.aload_n 1, 1) := by decide +kernel
theorem d_NumberWriter_writeExponent_1 : decode b_NumberWriter_writeExponent 1 = .ok (.getfield 34, 3) := by decide +kernel
theorem d_NumberWriter_writeExponent_4 : decode b_NumberWriter_writeExponent 4 = .ok (.ifCond .le 10, 3) := by decide +kernel
theorem d_NumberWriter_writeExponent_7 : decode b_NumberWriter_writeExponent 7 = .ok (.aload_n 2, 1) := by decide +kernel
theorem d_NumberWriter_writeExponent_8 : decode b_NumberWriter_writeExponent 8 = .ok (.bipush 69, 2) := by decide +kernel
theorem d_NumberWriter_writeExponent_10 : decode b_NumberWriter_writeExponent 10 = .ok (.invokevirtual 149, 3) := by decide +kernel
theorem d_NumberWriter_writeExponent_13 : decode b_NumberWriter_writeExponent 13 = .ok (.pop, 1) := by decide +kernel
theorem d_NumberWriter_writeExponent_14 : decode b_NumberWriter_writeExponent 14 = .ok (.aload_n 0, 1) := by decide +kernel
theorem d_NumberWriter_writeExponent_15 : decode b_NumberWriter_writeExponent 15 = .ok (.getfield 22, 3) := by decide +kernel
theorem d_NumberWriter_writeExponent_18 : decode b_NumberWriter_writeExponent 18 = .ok (.iconst 4, 1) := by decide +kernel
theorem d_NumberWriter_writeExponent_19 : decode b_NumberWriter_writeExponent 19 = .ok (.aload_n 2, 1) := by decide +kernel
theorem d_NumberWriter_writeExponent_20 : decode b_NumberWriter_writeExponent 20 = .ok (.invokevirtual 135, 3) := by decide +kernel
theorem d_NumberWriter_writeExponent_23 : decode b_NumberWriter_writeExponent 23 = .ok (.iastore, 1) := by decide +kernel
theorem d_NumberWriter_writeExponent_24 : decode b_NumberWriter_writeExponent 24 = .ok (.aload_n 1, 1) := by decide +kernel
theorem d_NumberWriter_writeExponent_25 : decode b_NumberWriter_writeExponent 25 = .ok (.getfield 34, 3) := by decide +kernel
theorem d_NumberWriter_writeExponent_28 : decode b_NumberWriter_writeExponent 28 = .ok (.ifCond .le 43, 3) := by decide +kernel
theorem d_NumberWriter_writeExponent_31 : decode b_NumberWriter_writeExponent 31 = .ok (.aload_n 0, 1) := by decide +kernel
theorem d_NumberWriter_writeExponent_32 : decode b_NumberWriter_writeExponent 32 = .ok (.getfield 18, 3) := by decide +kernel
theorem d_NumberWriter_writeExponent_35 : decode b_NumberWriter_writeExponent 35 = .ok (.ifCond .ge 10, 3) := by decide +kernel
theorem d_NumberWriter_writeExponent_38 : decode b_NumberWriter_writeExponent 38 = .ok (.aload_n 2, 1) := by decide +kernel
theorem d_NumberWriter_writeExponent_39 : decode b_NumberWriter_writeExponent 39 = .ok (.bipush 45, 2) := by decide +kernel
theorem d_NumberWriter_writeExponent_41 : decode b_NumberWriter_writeExponent 41 = .ok (.invokevirtual 149, 3) := by decide +kernel
theorem d_NumberWriter_writeExponent_44 : decode b_NumberWriter_writeExponent 44 = .ok (.pop, 1) := by decide +kernel
theorem d_NumberWriter_writeExponent_45 : decode b_NumberWriter_writeExponent 45 = .ok (.aload_n 0, 1) := by decide +kernel
theorem d_NumberWriter_writeExponent_46 : decode b_NumberWriter_writeExponent 46 = .ok (.getfield 18, 3) := by decide +kernel
theorem d_NumberWriter_writeExponent_49 : decode b_NumberWriter_writeExponent 49 = .ok (.invokestatic 157, 3) := by decide +kernel
theorem d_NumberWriter_writeExponent_52 : decode b_NumberWriter_writeExponent 52 = .ok (.i2l, 1) := by decide +kernel
theorem d_NumberWriter_writeExponent_53 : decode b_NumberWriter_writeExponent 53 = .ok (.lstore_n 3, 1) := by decide +kernel
theorem d_NumberWriter_writeExponent_54 : decode b_NumberWriter_writeExponent 54 = .ok (.lload_n 3, 1) := by decide +kernel
theorem d_NumberWriter_writeExponent_55 : decode b_NumberWriter_writeExponent 55 = .ok (.lload_n 3, 1) := by decide +kernel
theorem d_NumberWriter_writeExponent_56 : decode b_NumberWriter_writeExponent 56 = .ok (.invokestatic 60, 3) := by decide +kernel
theorem d_NumberWriter_writeExponent_59 : decode b_NumberWriter_writeExponent 59 = .ok (.aload_n 1, 1) := by decide +kernel
theorem d_NumberWriter_writeExponent_60 : decode b_NumberWriter_writeExponent 60 = .ok (.getfield 34, 3) := by decide +kernel
theorem d_NumberWriter_writeExponent_63 : decode b_NumberWriter_writeExponent 63 = .ok (.invokestatic 129, 3) := by decide +kernel
theorem d_NumberWriter_writeExponent_66 : decode b_NumberWriter_writeExponent 66 = .ok (.iconst 0, 1) := by decide +kernel
theorem d_NumberWriter_writeExponent_67 : decode b_NumberWriter_writeExponent 67 = .ok (.aload_n 2, 1) := by decide +kernel
theorem d_NumberWriter_writeExponent_68 : decode b_NumberWriter_writeExponent 68 = .ok (.invokestatic 145, 3) := by decide +kernel
theorem d_NumberWriter_writeExponent_71 : decode b_NumberWriter_writeExponent 71 = .ok (.aload_n 0, 1) := by decide +kernel
theorem d_NumberWriter_writeExponent_72 : decode b_NumberWriter_writeExponent 72 = .ok (.getfield 22, 3) := by decide +kernel
theorem d_NumberWriter_writeExponent_75 : decode b_NumberWriter_writeExponent 75 = .ok (.iconst 5, 1) := by decide +kernel
theorem d_NumberWriter_writeExponent_76 : decode b_NumberWriter_writeExponent 76 = .ok (.aload_n 2, 1) := by decide +kernel
theorem d_NumberWriter_writeExponent_77 : decode b_NumberWriter_writeExponent 77 = .ok (.invokevirtual 135, 3) := by decide +kernel
theorem d_NumberWriter_writeExponent_80 : decode b_NumberWriter_writeExponent 80 = .ok (.iastore, 1) := by decide +kernel
theorem d_NumberWriter_writeExponent_81 : decode b_NumberWriter_writeExponent 81 = .ok (.return_, 1) := by decide +kernel
theorem d_NumberWriter_writeDigits_0 : decode b_NumberWriter_writeDigits 0 = .ok (.iload_n 2, 1) := by decide +kernel
theorem d_NumberWriter_writeDigits_1 : decode b_NumberWriter_writeDigits 1 = .ok (.istore 5, 2) := by decide +kernel
theorem d_NumberWriter_writeDigits_3 : decode b_NumberWriter_writeDigits 3 = .ok (.iload 5, 2) := by decide +kernel
theorem d_NumberWriter_writeDigits_5 : decode b_NumberWriter_writeDigits 5 = .ok (.ifCond .le 58, 3) := by decide +kernel
theorem d_NumberWriter_writeDigits_8 : decode b_NumberWriter_writeDigits 8 = .ok (.iload_n 3, 1) := by decide +kernel
theorem d_NumberWriter_writeDigits_9 : decode b_NumberWriter_writeDigits 9 = .ok (.ifCond .le 24, 3) := by decide +kernel
theorem d_NumberWriter_writeDigits_12 : decode b_NumberWriter_writeDigits 12 = .ok (.iload 5, 2) := by decide +kernel
theorem d_NumberWriter_writeDigits_14 : decode b_NumberWriter_writeDigits 14 = .ok (.iload_n 2, 1) := by decide +kernel
theorem d_NumberWriter_writeDigits_15 : decode b_NumberWriter_writeDigits 15 = .ok (.if_icmp .ge 18, 3) := by decide +kernel
theorem d_NumberWriter_writeDigits_18 : decode b_NumberWriter_writeDigits 18 = .ok (.iload 5, 2) := by decide +kernel
theorem d_NumberWriter_writeDigits_20 : decode b_NumberWriter_writeDigits 20 = .ok (.iload_n 3, 1) := by decide +kernel
theorem d_NumberWriter_writeDigits_21 : decode b_NumberWriter_writeDigits 21 = .ok (.irem, 1) := by decide +kernel
theorem d_NumberWriter_writeDigits_22 : decode b_NumberWriter_writeDigits 22 = .ok (.ifCond .ne 11, 3) := by decide +kernel
theorem d_NumberWriter_writeDigits_25 : decode b_NumberWriter_writeDigits 25 = .ok (.aload 4, 2) := by decide +kernel
theorem d_NumberWriter_writeDigits_27 : decode b_NumberWriter_writeDigits 27 = .ok (.bipush 44, 2) := by decide +kernel
theorem d_NumberWriter_writeDigits_29 : decode b_NumberWriter_writeDigits 29 = .ok (.invokevirtual 149, 3) := by decide +kernel
theorem d_NumberWriter_writeDigits_32 : decode b_NumberWriter_writeDigits 32 = .ok (.pop, 1) := by decide +kernel
theorem d_NumberWriter_writeDigits_33 : decode b_NumberWriter_writeDigits 33 = .ok (.aload 4, 2) := by decide +kernel
theorem d_NumberWriter_writeDigits_35 : decode b_NumberWriter_writeDigits 35 = .ok (.bipush 48, 2) := by decide +kernel
theorem d_NumberWriter_writeDigits_37 : decode b_NumberWriter_writeDigits 37 = .ok (.lload_n 0, 1) := by decide +kernel
theorem d_NumberWriter_writeDigits_38 : decode b_NumberWriter_writeDigits 38 = .ok (.iload 5, 2) := by decide +kernel
theorem d_NumberWriter_writeDigits_40 : decode b_NumberWriter_writeDigits 40 = .ok (.iconst 1, 1) := by decide +kernel
theorem d_NumberWriter_writeDigits_41 : decode b_NumberWriter_writeDigits 41 = .ok (.isub, 1) := by decide +kernel
theorem d_NumberWriter_writeDigits_42 : decode b_NumberWriter_writeDigits 42 = .ok (.invokestatic 67, 3) := by decide +kernel
theorem d_NumberWriter_writeDigits_45 : decode b_NumberWriter_writeDigits 45 = .ok (.ldiv, 1) := by decide +kernel
theorem d_NumberWriter_writeDigits_46 : decode b_NumberWriter_writeDigits 46 = .ok (.ldc2_w 160, 3) := by decide +kernel
theorem d_NumberWriter_writeDigits_49 : decode b_NumberWriter_writeDigits 49 = .ok (.lrem, 1) := by decide +kernel
theorem d_NumberWriter_writeDigits_50 : decode b_NumberWriter_writeDigits 50 = .ok (.l2i, 1) := by decide +kernel
theorem d_NumberWriter_writeDigits_51 : decode b_NumberWriter_writeDigits 51 = .ok (.iadd, 1) := by decide +kernel
theorem d_NumberWriter_writeDigits_52 : decode b_NumberWriter_writeDigits 52 = .ok (.i2c, 1) := by decide +kernel
theorem d_NumberWriter_writeDigits_53 : decode b_NumberWriter_writeDigits 53 = .ok (.invokevirtual 149, 3) := by decide +kernel
theorem d_NumberWriter_writeDigits_56 : decode b_NumberWriter_writeDigits 56 = .ok (.pop, 1) := by decide +kernel
theorem d_NumberWriter_writeDigits_57 : decode b_NumberWriter_writeDigits 57 = .ok (.iinc 5 (-1), 3) := by decide +kernel
theorem d_NumberWriter_writeDigits_60 : decode b_NumberWriter_writeDigits 60 = .ok (.goto (-57), 3) := by decide +kernel
theorem d_NumberWriter_writeDigits_63 : decode b_NumberWriter_writeDigits 63 = .ok (.return_, 1) := by decide +kernel
theorem d_NumberReader_init_0 : decode b_NumberReader_init 0 = .ok (.aload_n 0, 1) := by decide +kernel
theorem d_NumberReader_init_1 : decode b_NumberReader_init 1 = .ok (.invokespecial 3, 3) := by decide +kernel
theorem d_NumberReader_init_4 : decode b_NumberReader_init 4 = .ok (.aload_n 0, 1) := by decide +kernel
theorem d_NumberReader_init_5 : decode b_NumberReader_init 5 = .ok (.iconst 0, 1) := by decide +kernel
theorem d_NumberReader_init_6 : decode b_NumberReader_init 6 = .ok (.putfield 9, 3) := by decide +kernel
theorem d_NumberReader_init_9 : decode b_NumberReader_init 9 = .ok (.aload_n 0, 1) := by decide +kernel
theorem d_NumberReader_init_10 : decode b_NumberReader_init 10 = .ok (.iconst 0, 1) := by decide +kernel
theorem d_NumberReader_init_11 : decode b_NumberReader_init 11 = .ok (.putfield 15, 3) := by decide +kernel
theorem d_NumberReader_init_14 : decode b_NumberReader_init 14 = .ok (.aload_n 0, 1) := by decide +kernel
theorem d_NumberReader_init_15 : decode b_NumberReader_init 15 = .ok (.iconst 0, 1) := by decide +kernel
theorem d_NumberReader_init_16 : decode b_NumberReader_init 16 = .ok (.putfield 18, 3) := by decide +kernel
theorem d_NumberReader_init_19 : decode b_NumberReader_init 19 = .ok (.aload_n 0, 1) := by decide +kernel
theorem d_NumberReader_init_20 : decode b_NumberReader_init 20 = .ok (.iconst 0, 1) := by decide +kernel
theorem d_NumberReader_init_21 : decode b_NumberReader_init 21 = .ok (.putfield 21, 3) := by decide +kernel
theorem d_NumberReader_init_24 : decode b_NumberReader_init 24 = .ok (.aload_n 0, 1) := by decide +kernel
theorem d_NumberReader_init_25 : decode b_NumberReader_init 25 = .ok (.iconst 0, 1) := by decide +kernel
theorem d_NumberReader_init_26 : decode b_NumberReader_init 26 = .ok (.iconst 0, 1) := by decide +kernel
theorem d_NumberReader_init_27 : decode b_NumberReader_init 27 = .ok (.invokevirtual 25, 3) := by decide +kernel
theorem d_NumberReader_init_30 : decode b_NumberReader_init 30 = .ok (.return_, 1) := by decide +kernel
theorem d_NumberReader_signedDigits_0 : decode b_NumberReader_signedDigits 0 = .ok (.aload_n 0, 1) := by decide +kernel
theorem d_NumberReader_signedDigits_1 : decode b_NumberReader_signedDigits 1 = .ok (.getfield 21, 3) := by decide +kernel
theorem d_NumberReader_signedDigits_4 : decode b_NumberReader_signedDigits 4 = .ok (.ifCond .eq 11, 3) := by decide +kernel
theorem d_NumberReader_signedDigits_7 : decode b_NumberReader_signedDigits 7 = .ok (.aload_n 0, 1) := by decide +kernel
theorem d_NumberReader_signedDigits_8 : decode b_NumberReader_signedDigits 8 = .ok (.getfield 29, 3) := by decide +kernel
theorem d_NumberReader_signedDigits_11 : decode b_NumberReader_signedDigits 11 = .ok (.lneg, 1) := by decide +kernel
theorem d_NumberReader_signedDigits_12 : decode b_NumberReader_signedDigits 12 = .ok (.goto 7, 3) := by decide +kernel
theorem d_NumberReader_signedDigits_15 : decode b_NumberReader_signedDigits 15 = .ok (.aload_n 0, 1) := by decide +kernel
theorem d_NumberReader_signedDigits_16 : decode b_NumberReader_signedDigits 16 = .ok (.getfield 29, 3) := by decide +kernel
theorem d_NumberReader_signedDigits_19 : decode b_NumberReader_signedDigits 19 = .ok (.lreturn, 1) := by decide +kernel
theorem d_NumberReader_places_0 : decode b_NumberReader_places 0 = .ok (.aload_n 0, 1) := by decide +kernel
theorem d_NumberReader_places_1 : decode b_NumberReader_places 1 = .ok (.getfield 29, 3) := by decide +kernel
theorem d_NumberReader_places_4 : decode b_NumberReader_places 4 = .ok (.lconst 0, 1) := by decide +kernel
theorem d_NumberReader_places_5 : decode b_NumberReader_places 5 = .ok (.lcmp, 1) := by decide +kernel
theorem d_NumberReader_places_6 : decode b_NumberReader_places 6 = .ok (.ifCond .ne 7, 3) := by decide +kernel
theorem d_NumberReader_places_9 : decode b_NumberReader_places 9 = .ok (.iconst 0, 1) := by decide +kernel
theorem d_NumberReader_places_10 : decode b_NumberReader_places 10 = .ok (.goto 22, 3) := by decide +kernel
theorem d_NumberReader_places_13 : decode b_NumberReader_places 13 = .ok (.aload_n 0, 1) := by decide +kernel
theorem d_NumberReader_places_14 : decode b_NumberReader_places 14 = .ok (.getfield 33, 3) := by decide +kernel
theorem d_NumberReader_places_17 : decode b_NumberReader_places 17 = .ok (.aload_n 0, 1) := by decide +kernel
theorem d_NumberReader_places_18 : decode b_NumberReader_places 18 = .ok (.getfield 36, 3) := by decide +kernel
theorem d_NumberReader_places_21 : decode b_NumberReader_places 21 = .ok (.isub, 1) := by decide +kernel
theorem d_NumberReader_places_22 : decode b_NumberReader_places 22 = .ok (.aload_n 0, 1) := by decide +kernel
theorem d_NumberReader_places_23 : decode b_NumberReader_places 23 = .ok (.getfield 39, 3) := by decide +kernel
theorem d_NumberReader_places_26 : decode b_NumberReader_places 26 = .ok (.isub, 1) := by decide +kernel
theorem d_NumberReader_places_27 : decode b_NumberReader_places 27 = .ok (.aload_n 0, 1) := by decide +kernel
theorem d_NumberReader_places_28 : decode b_NumberReader_places 28 = .ok (.getfield 18, 3) := by decide +kernel
theorem d_NumberReader_places_31 : decode b_NumberReader_places 31 = .ok (.iadd, 1) := by decide +kernel
theorem d_NumberReader_places_32 : decode b_NumberReader_places 32 = .ok (.ireturn, 1) := by decide +kernel
theorem d_NumberReader_read_0 : decode b_NumberReader_read 0 = .ok (.aload_n 2, 1) := by decide +kernel
theorem d_NumberReader_read_1 : decode b_NumberReader_read 1 = .ok (.getfield 42, 3) := by decide +kernel
theorem d_NumberReader_read_4 : decode b_NumberReader_read 4 = .ok (.getfield 48, 3) := by decide +kernel
theorem d_NumberReader_read_7 : decode b_NumberReader_read 7 = .ok (.astore_n 3, 1) := by decide +kernel
theorem d_NumberReader_read_8 : decode b_NumberReader_read 8 = .ok (.aload_n 0, 1) := by decide +kernel
theorem d_NumberReader_read_9 : decode b_NumberReader_read 9 = .ok (.aload_n 2, 1) := by decide +kernel
theorem d_NumberReader_read_10 : decode b_NumberReader_read 10 = .ok (.getfield 54, 3) := by decide +kernel
theorem d_NumberReader_read_13 : decode b_NumberReader_read 13 = .ok (.ifCond .eq 7, 3) := by decide +kernel
theorem d_NumberReader_read_16 : decode b_NumberReader_read 16 = .ok (.iconst 2, 1) := by decide +kernel
theorem d_NumberReader_read_17 : decode b_NumberReader_read 17 = .ok (.goto 4, 3) := by decide +kernel
theorem d_NumberReader_read_20 : decode b_NumberReader_read 20 = .ok (.iconst 0, 1) := by decide +kernel
theorem d_NumberReader_read_21 : decode b_NumberReader_read 21 = .ok (.putfield 18, 3) := by decide +kernel
theorem d_NumberReader_read_24 : decode b_NumberReader_read 24 = .ok (.aload_n 0, 1) := by decide +kernel
theorem d_NumberReader_read_25 : decode b_NumberReader_read 25 = .ok (.iconst 0, 1) := by decide +kernel
theorem d_NumberReader_read_26 : decode b_NumberReader_read 26 = .ok (.putfield 21, 3) := by decide +kernel
theorem d_NumberReader_read_29 : decode b_NumberReader_read 29 = .ok (.aload_n 0, 1) := by decide +kernel
theorem d_NumberReader_read_30 : decode b_NumberReader_read 30 = .ok (.aload_n 1, 1) := by decide +kernel
theorem d_NumberReader_read_31 : decode b_NumberReader_read 31 = .ok (.aload_n 2, 1) := by decide +kernel
theorem d_NumberReader_read_32 : decode b_NumberReader_read 32 = .ok (.getfield 42, 3) := by decide +kernel
theorem d_NumberReader_read_35 : decode b_NumberReader_read 35 = .ok (.invokevirtual 57, 3) := by decide +kernel
theorem d_NumberReader_read_38 : decode b_NumberReader_read 38 = .ok (.ifCond .eq 12, 3) := by decide +kernel
theorem d_NumberReader_read_41 : decode b_NumberReader_read 41 = .ok (.aload_n 0, 1) := by decide +kernel
theorem d_NumberReader_read_42 : decode b_NumberReader_read 42 = .ok (.aload_n 1, 1) := by decide +kernel
theorem d_NumberReader_read_43 : decode b_NumberReader_read 43 = .ok (.aload_n 3, 1) := by decide +kernel
theorem d_NumberReader_read_44 : decode b_NumberReader_read 44 = .ok (.invokevirtual 61, 3) := by decide +kernel
theorem d_NumberReader_read_47 : decode b_NumberReader_read 47 = .ok (.ifCond .ne 31, 3) := by decide +kernel
theorem d_NumberReader_read_50 : decode b_NumberReader_read 50 = .ok (.aload_n 0, 1) := by decide +kernel
theorem d_NumberReader_read_51 : decode b_NumberReader_read 51 = .ok (.iconst 1, 1) := by decide +kernel
theorem d_NumberReader_read_52 : decode b_NumberReader_read 52 = .ok (.putfield 21, 3) := by decide +kernel
theorem d_NumberReader_read_55 : decode b_NumberReader_read 55 = .ok (.aload_n 0, 1) := by decide +kernel
theorem d_NumberReader_read_56 : decode b_NumberReader_read 56 = .ok (.aload_n 1, 1) := by decide +kernel
theorem d_NumberReader_read_57 : decode b_NumberReader_read 57 = .ok (.aload_n 2, 1) := by decide +kernel
theorem d_NumberReader_read_58 : decode b_NumberReader_read 58 = .ok (.getfield 65, 3) := by decide +kernel
theorem d_NumberReader_read_61 : decode b_NumberReader_read 61 = .ok (.invokevirtual 57, 3) := by decide +kernel
theorem d_NumberReader_read_64 : decode b_NumberReader_read 64 = .ok (.ifCond .eq 12, 3) := by decide +kernel
theorem d_NumberReader_read_67 : decode b_NumberReader_read 67 = .ok (.aload_n 0, 1) := by decide +kernel
theorem d_NumberReader_read_68 : decode b_NumberReader_read 68 = .ok (.aload_n 1, 1) := by decide +kernel
theorem d_NumberReader_read_69 : decode b_NumberReader_read 69 = .ok (.aload_n 3, 1) := by decide +kernel
theorem d_NumberReader_read_70 : decode b_NumberReader_read 70 = .ok (.invokevirtual 61, 3) := by decide +kernel
theorem d_NumberReader_read_73 : decode b_NumberReader_read 73 = .ok (.ifCond .ne 5, 3) := by decide +kernel
theorem d_NumberReader_read_76 : decode b_NumberReader_read 76 = .ok (.iconst 0, 1) := by decide +kernel
theorem d_NumberReader_read_77 : decode b_NumberReader_read 77 = .ok (.ireturn, 1) := by decide +kernel
theorem d_NumberReader_read_78 : decode b_NumberReader_read 78 = .ok (.aload_n 0, 1) := by decide +kernel
theorem d_NumberReader_read_79 : decode b_NumberReader_read 79 = .ok (.getfield 68, 3) := by decide +kernel
theorem d_NumberReader_read_82 : decode b_NumberReader_read 82 = .ok (.bipush 17, 2) := by decide +kernel
theorem d_NumberReader_read_84 : decode b_NumberReader_read 84 = .ok (.if_icmp .gt 7, 3) := by decide +kernel
theorem d_NumberReader_read_87 : decode b_NumberReader_read 87 = .ok (.iconst 1, 1) := by decide +kernel
theorem d_NumberReader_read_88 : decode b_NumberReader_read 88 = .ok (.goto 4, 3) := by decide +kernel
theorem d_NumberReader_read_91 : decode b_NumberReader_read 91 = .ok (.iconst 0, 1) := by decide +kernel
theorem d_NumberReader_read_92 : decode b_NumberReader_read 92 = .ok (.ireturn, 1) := by decide +kernel
theorem d_NumberReader_startBetween_0 : decode b_NumberReader_startBetween 0 = .ok (.aload_n 2, 1) := by decide +kernel
theorem d_NumberReader_startBetween_1 : decode b_NumberReader_startBetween 1 = .ok (.getfield 71, 3) := by decide +kernel
theorem d_NumberReader_startBetween_4 : decode b_NumberReader_startBetween 4 = .ok (.invokevirtual 75, 3) := by decide +kernel
theorem d_NumberReader_startBetween_7 : decode b_NumberReader_startBetween 7 = .ok (.istore_n 3, 1) := by decide +kernel
theorem d_NumberReader_startBetween_8 : decode b_NumberReader_startBetween 8 = .ok (.aload_n 1, 1) := by decide +kernel
theorem d_NumberReader_startBetween_9 : decode b_NumberReader_startBetween 9 = .ok (.invokevirtual 81, 3) := by decide +kernel
theorem d_NumberReader_startBetween_12 : decode b_NumberReader_startBetween 12 = .ok (.aload_n 2, 1) := by decide +kernel
theorem d_NumberReader_startBetween_13 : decode b_NumberReader_startBetween 13 = .ok (.getfield 84, 3) := by decide +kernel
theorem d_NumberReader_startBetween_16 : decode b_NumberReader_startBetween 16 = .ok (.invokevirtual 75, 3) := by decide +kernel
theorem d_NumberReader_startBetween_19 : decode b_NumberReader_startBetween 19 = .ok (.isub, 1) := by decide +kernel
theorem d_NumberReader_startBetween_20 : decode b_NumberReader_startBetween 20 = .ok (.istore 4, 2) := by decide +kernel
theorem d_NumberReader_startBetween_22 : decode b_NumberReader_startBetween 22 = .ok (.aload_n 0, 1) := by decide +kernel
theorem d_NumberReader_startBetween_23 : decode b_NumberReader_startBetween 23 = .ok (.iload_n 3, 1) := by decide +kernel
theorem d_NumberReader_startBetween_24 : decode b_NumberReader_startBetween 24 = .ok (.iload 4, 2) := by decide +kernel
theorem d_NumberReader_startBetween_26 : decode b_NumberReader_startBetween 26 = .ok (.invokevirtual 25, 3) := by decide +kernel
theorem d_NumberReader_startBetween_29 : decode b_NumberReader_startBetween 29 = .ok (.iload_n 3, 1) := by decide +kernel
theorem d_NumberReader_startBetween_30 : decode b_NumberReader_startBetween 30 = .ok (.iload 4, 2) := by decide +kernel
theorem d_NumberReader_startBetween_32 : decode b_NumberReader_startBetween 32 = .ok (.if_icmp .gt 32, 3) := by decide +kernel
theorem d_NumberReader_startBetween_35 : decode b_NumberReader_startBetween 35 = .ok (.aload_n 2, 1) := by decide +kernel
theorem d_NumberReader_startBetween_36 : decode b_NumberReader_startBetween 36 = .ok (.getfield 71, 3) := by decide +kernel
theorem d_NumberReader_startBetween_39 : decode b_NumberReader_startBetween 39 = .ok (.aload_n 1, 1) := by decide +kernel
theorem d_NumberReader_startBetween_40 : decode b_NumberReader_startBetween 40 = .ok (.iconst 0, 1) := by decide +kernel
theorem d_NumberReader_startBetween_41 : decode b_NumberReader_startBetween 41 = .ok (.invokevirtual 87, 3) := by decide +kernel
theorem d_NumberReader_startBetween_44 : decode b_NumberReader_startBetween 44 = .ok (.ifCond .eq 20, 3) := by decide +kernel
theorem d_NumberReader_startBetween_47 : decode b_NumberReader_startBetween 47 = .ok (.aload_n 2, 1) := by decide +kernel
theorem d_NumberReader_startBetween_48 : decode b_NumberReader_startBetween 48 = .ok (.getfield 84, 3) := by decide +kernel
theorem d_NumberReader_startBetween_51 : decode b_NumberReader_startBetween 51 = .ok (.aload_n 1, 1) := by decide +kernel
theorem d_NumberReader_startBetween_52 : decode b_NumberReader_startBetween 52 = .ok (.iload 4, 2) := by decide +kernel
theorem d_NumberReader_startBetween_54 : decode b_NumberReader_startBetween 54 = .ok (.invokevirtual 87, 3) := by decide +kernel
theorem d_NumberReader_startBetween_57 : decode b_NumberReader_startBetween 57 = .ok (.ifCond .eq 7, 3) := by decide +kernel
theorem d_NumberReader_startBetween_60 : decode b_NumberReader_startBetween 60 = .ok (.iconst 1, 1) := by decide +kernel
theorem d_NumberReader_startBetween_61 : decode b_NumberReader_startBetween 61 = .ok (.goto 4, 3) := by decide +kernel
theorem d_NumberReader_startBetween_64 : decode b_NumberReader_startBetween 64 = .ok (.iconst 0, 1) := by decide +kernel
theorem d_NumberReader_startBetween_65 : decode b_NumberReader_startBetween 65 = .ok (.ireturn, 1) := by decide +kernel
theorem d_NumberReader_startBody_0 : decode b_NumberReader_startBody 0 = .ok (.aload_n 0, 1) := by decide +kernel
theorem d_NumberReader_startBody_1 : decode b_NumberReader_startBody 1 = .ok (.iload_n 1, 1) := by decide +kernel
theorem d_NumberReader_startBody_2 : decode b_NumberReader_startBody 2 = .ok (.putfield 9, 3) := by decide +kernel
theorem d_NumberReader_startBody_5 : decode b_NumberReader_startBody 5 = .ok (.aload_n 0, 1) := by decide +kernel
theorem d_NumberReader_startBody_6 : decode b_NumberReader_startBody 6 = .ok (.iload_n 2, 1) := by decide +kernel
theorem d_NumberReader_startBody_7 : decode b_NumberReader_startBody 7 = .ok (.putfield 15, 3) := by decide +kernel
theorem d_NumberReader_startBody_10 : decode b_NumberReader_startBody 10 = .ok (.aload_n 0, 1) := by decide +kernel
theorem d_NumberReader_startBody_11 : decode b_NumberReader_startBody 11 = .ok (.iload_n 1, 1) := by decide +kernel
theorem d_NumberReader_startBody_12 : decode b_NumberReader_startBody 12 = .ok (.putfield 91, 3) := by decide +kernel
theorem d_NumberReader_startBody_15 : decode b_NumberReader_startBody 15 = .ok (.aload_n 0, 1) := by decide +kernel
theorem d_NumberReader_startBody_16 : decode b_NumberReader_startBody 16 = .ok (.iconst 0, 1) := by decide +kernel
theorem d_NumberReader_startBody_17 : decode b_NumberReader_startBody 17 = .ok (.putfield 94, 3) := by decide +kernel
theorem d_NumberReader_startBody_20 : decode b_NumberReader_startBody 20 = .ok (.aload_n 0, 1) := by decide +kernel
theorem d_NumberReader_startBody_21 : decode b_NumberReader_startBody 21 = .ok (.iconst 0, 1) := by decide +kernel
theorem d_NumberReader_startBody_22 : decode b_NumberReader_startBody 22 = .ok (.putfield 33, 3) := by decide +kernel
theorem d_NumberReader_startBody_25 : decode b_NumberReader_startBody 25 = .ok (.aload_n 0, 1) := by decide +kernel
theorem d_NumberReader_startBody_26 : decode b_NumberReader_startBody 26 = .ok (.iconst 0, 1) := by decide +kernel
theorem d_NumberReader_startBody_27 : decode b_NumberReader_startBody 27 = .ok (.putfield 39, 3) := by decide +kernel
theorem d_NumberReader_startBody_30 : decode b_NumberReader_startBody 30 = .ok (.aload_n 0, 1) := by decide +kernel
theorem d_NumberReader_startBody_31 : decode b_NumberReader_startBody 31 = .ok (.lconst 0, 1) := by decide +kernel
theorem d_NumberReader_startBody_32 : decode b_NumberReader_startBody 32 = .ok (.putfield 29, 3) := by decide +kernel
theorem d_NumberReader_startBody_35 : decode b_NumberReader_startBody 35 = .ok (.aload_n 0, 1) := by decide +kernel
theorem d_NumberReader_startBody_36 : decode b_NumberReader_startBody 36 = .ok (.iconst 0, 1) := by decide +kernel
theorem d_NumberReader_startBody_37 : decode b_NumberReader_startBody 37 = .ok (.putfield 68, 3) := by decide +kernel
theorem d_NumberReader_startBody_40 : decode b_NumberReader_startBody 40 = .ok (.aload_n 0, 1) := by decide +kernel
theorem d_NumberReader_startBody_41 : decode b_NumberReader_startBody 41 = .ok (.iconst 0, 1) := by decide +kernel
theorem d_NumberReader_startBody_42 : decode b_NumberReader_startBody 42 = .ok (.putfield 36, 3) := by decide +kernel
theorem d_NumberReader_startBody_45 : decode b_NumberReader_startBody 45 = .ok (.return_, 1) := by decide +kernel
theorem d_NumberReader_bodyAt_0 : decode b_NumberReader_bodyAt 0 = .ok (.iload_n 2, 1) := by decide +kernel
theorem d_NumberReader_bodyAt_1 : decode b_NumberReader_bodyAt 1 = .ok (.aload_n 0, 1) := by decide +kernel
theorem d_NumberReader_bodyAt_2 : decode b_NumberReader_bodyAt 2 = .ok (.getfield 9, 3) := by decide +kernel
theorem d_NumberReader_bodyAt_5 : decode b_NumberReader_bodyAt 5 = .ok (.if_icmp .lt 19, 3) := by decide +kernel
theorem d_NumberReader_bodyAt_8 : decode b_NumberReader_bodyAt 8 = .ok (.iload_n 2, 1) := by decide +kernel
theorem d_NumberReader_bodyAt_9 : decode b_NumberReader_bodyAt 9 = .ok (.aload_n 0, 1) := by decide +kernel
theorem d_NumberReader_bodyAt_10 : decode b_NumberReader_bodyAt 10 = .ok (.getfield 15, 3) := by decide +kernel
theorem d_NumberReader_bodyAt_13 : decode b_NumberReader_bodyAt 13 = .ok (.if_icmp .ge 11, 3) := by decide +kernel
theorem d_NumberReader_bodyAt_16 : decode b_NumberReader_bodyAt 16 = .ok (.aload_n 1, 1) := by decide +kernel
theorem d_NumberReader_bodyAt_17 : decode b_NumberReader_bodyAt 17 = .ok (.iload_n 2, 1) := by decide +kernel
theorem d_NumberReader_bodyAt_18 : decode b_NumberReader_bodyAt 18 = .ok (.invokevirtual 97, 3) := by decide +kernel
theorem d_NumberReader_bodyAt_21 : decode b_NumberReader_bodyAt 21 = .ok (.goto 4, 3) := by decide +kernel
theorem d_NumberReader_bodyAt_24 : decode b_NumberReader_bodyAt 24 = .ok (.iconst (-1), 1) := by decide +kernel
theorem d_NumberReader_bodyAt_25 : decode b_NumberReader_bodyAt 25 = .ok (.ireturn, 1) := by decide +kernel
theorem d_NumberReader_readBody_0 : decode b_NumberReader_readBody 0 = .ok (.aload_n 0, 1) := by decide +kernel
theorem d_NumberReader_readBody_1 : decode b_NumberReader_readBody 1 = .ok (.aload_n 1, 1) := by decide +kernel
theorem d_NumberReader_readBody_2 : decode b_NumberReader_readBody 2 = .ok (.aload_n 2, 1) := by decide +kernel
theorem d_NumberReader_readBody_3 : decode b_NumberReader_readBody 3 = .ok (.getfield 101, 3) := by decide +kernel
theorem d_NumberReader_readBody_6 : decode b_NumberReader_readBody 6 = .ok (.ifCond .le 7, 3) := by decide +kernel
theorem d_NumberReader_readBody_9 : decode b_NumberReader_readBody 9 = .ok (.iconst 1, 1) := by decide +kernel
theorem d_NumberReader_readBody_10 : decode b_NumberReader_readBody 10 = .ok (.goto 4, 3) := by decide +kernel
theorem d_NumberReader_readBody_13 : decode b_NumberReader_readBody 13 = .ok (.iconst 0, 1) := by decide +kernel
theorem d_NumberReader_readBody_14 : decode b_NumberReader_readBody 14 = .ok (.invokevirtual 106, 3) := by decide +kernel
theorem d_NumberReader_readBody_17 : decode b_NumberReader_readBody 17 = .ok (.aload_n 0, 1) := by decide +kernel
theorem d_NumberReader_readBody_18 : decode b_NumberReader_readBody 18 = .ok (.aload_n 1, 1) := by decide +kernel
theorem d_NumberReader_readBody_19 : decode b_NumberReader_readBody 19 = .ok (.aload_n 0, 1) := by decide +kernel
theorem d_NumberReader_readBody_20 : decode b_NumberReader_readBody 20 = .ok (.getfield 91, 3) := by decide +kernel
theorem d_NumberReader_readBody_23 : decode b_NumberReader_readBody 23 = .ok (.invokevirtual 110, 3) := by decide +kernel
theorem d_NumberReader_readBody_26 : decode b_NumberReader_readBody 26 = .ok (.bipush 46, 2) := by decide +kernel
theorem d_NumberReader_readBody_28 : decode b_NumberReader_readBody 28 = .ok (.if_icmp .ne 18, 3) := by decide +kernel
theorem d_NumberReader_readBody_31 : decode b_NumberReader_readBody 31 = .ok (.aload_n 0, 1) := by decide +kernel
theorem d_NumberReader_readBody_32 : decode b_NumberReader_readBody 32 = .ok (.dup, 1) := by decide +kernel
theorem d_NumberReader_readBody_33 : decode b_NumberReader_readBody 33 = .ok (.getfield 91, 3) := by decide +kernel
theorem d_NumberReader_readBody_36 : decode b_NumberReader_readBody 36 = .ok (.iconst 1, 1) := by decide +kernel
theorem d_NumberReader_readBody_37 : decode b_NumberReader_readBody 37 = .ok (.iadd, 1) := by decide +kernel
theorem d_NumberReader_readBody_38 : decode b_NumberReader_readBody 38 = .ok (.putfield 91, 3) := by decide +kernel
theorem d_NumberReader_readBody_41 : decode b_NumberReader_readBody 41 = .ok (.aload_n 0, 1) := by decide +kernel
theorem d_NumberReader_readBody_42 : decode b_NumberReader_readBody 42 = .ok (.aload_n 1, 1) := by decide +kernel
theorem d_NumberReader_readBody_43 : decode b_NumberReader_readBody 43 = .ok (.invokevirtual 114, 3) := by decide +kernel
theorem d_NumberReader_readBody_46 : decode b_NumberReader_readBody 46 = .ok (.aload_n 0, 1) := by decide +kernel
theorem d_NumberReader_readBody_47 : decode b_NumberReader_readBody 47 = .ok (.getfield 94, 3) := by decide +kernel
theorem d_NumberReader_readBody_50 : decode b_NumberReader_readBody 50 = .ok (.ifCond .ne 5, 3) := by decide +kernel
theorem d_NumberReader_readBody_53 : decode b_NumberReader_readBody 53 = .ok (.iconst 0, 1) := by decide +kernel
theorem d_NumberReader_readBody_54 : decode b_NumberReader_readBody 54 = .ok (.ireturn, 1) := by decide +kernel
theorem d_NumberReader_readBody_55 : decode b_NumberReader_readBody 55 = .ok (.aload_n 2, 1) := by decide +kernel
theorem d_NumberReader_readBody_56 : decode b_NumberReader_readBody 56 = .ok (.getfield 118, 3) := by decide +kernel
theorem d_NumberReader_readBody_59 : decode b_NumberReader_readBody 59 = .ok (.ifCond .le 13, 3) := by decide +kernel
theorem d_NumberReader_readBody_62 : decode b_NumberReader_readBody 62 = .ok (.aload_n 0, 1) := by decide +kernel
theorem d_NumberReader_readBody_63 : decode b_NumberReader_readBody 63 = .ok (.aload_n 1, 1) := by decide +kernel
theorem d_NumberReader_readBody_64 : decode b_NumberReader_readBody 64 = .ok (.invokevirtual 121, 3) := by decide +kernel
theorem d_NumberReader_readBody_67 : decode b_NumberReader_readBody 67 = .ok (.ifCond .ne 5, 3) := by decide +kernel
theorem d_NumberReader_readBody_70 : decode b_NumberReader_readBody 70 = .ok (.iconst 0, 1) := by decide +kernel
theorem d_NumberReader_readBody_71 : decode b_NumberReader_readBody 71 = .ok (.ireturn, 1) := by decide +kernel
theorem d_NumberReader_readBody_72 : decode b_NumberReader_readBody 72 = .ok (.aload_n 0, 1) := by decide +kernel
theorem d_NumberReader_readBody_73 : decode b_NumberReader_readBody 73 = .ok (.getfield 91, 3) := by decide +kernel
theorem d_NumberReader_readBody_76 : decode b_NumberReader_readBody 76 = .ok (.aload_n 0, 1) := by decide +kernel
theorem d_NumberReader_readBody_77 : decode b_NumberReader_readBody 77 = .ok (.getfield 15, 3) := by decide +kernel
theorem d_NumberReader_readBody_80 : decode b_NumberReader_readBody 80 = .ok (.if_icmp .ne 7, 3) := by decide +kernel
theorem d_NumberReader_readBody_83 : decode b_NumberReader_readBody 83 = .ok (.iconst 1, 1) := by decide +kernel
theorem d_NumberReader_readBody_84 : decode b_NumberReader_readBody 84 = .ok (.goto 4, 3) := by decide +kernel
theorem d_NumberReader_readBody_87 : decode b_NumberReader_readBody 87 = .ok (.iconst 0, 1) := by decide +kernel
theorem d_NumberReader_readBody_88 : decode b_NumberReader_readBody 88 = .ok (.ireturn, 1) := by decide +kernel
theorem d_NumberReader_readInteger_0 : decode b_NumberReader_readInteger 0 = .ok (.aload_n 0, 1) := by decide +kernel
theorem d_NumberReader_readInteger_1 : decode b_NumberReader_readInteger 1 = .ok (.getfield 91, 3) := by decide +kernel
theorem d_NumberReader_readInteger_4 : decode b_NumberReader_readInteger 4 = .ok (.aload_n 0, 1) := by decide +kernel
theorem d_NumberReader_readInteger_5 : decode b_NumberReader_readInteger 5 = .ok (.getfield 15, 3) := by decide +kernel
theorem d_NumberReader_readInteger_8 : decode b_NumberReader_readInteger 8 = .ok (.if_icmp .ge 63, 3) := by decide +kernel
theorem d_NumberReader_readInteger_11 : decode b_NumberReader_readInteger 11 = .ok (.aload_n 0, 1) := by decide +kernel
theorem d_NumberReader_readInteger_12 : decode b_NumberReader_readInteger 12 = .ok (.aload_n 1, 1) := by decide +kernel
theorem d_NumberReader_readInteger_13 : decode b_NumberReader_readInteger 13 = .ok (.aload_n 0, 1) := by decide +kernel
theorem d_NumberReader_readInteger_14 : decode b_NumberReader_readInteger 14 = .ok (.getfield 91, 3) := by decide +kernel
theorem d_NumberReader_readInteger_17 : decode b_NumberReader_readInteger 17 = .ok (.invokevirtual 110, 3) := by decide +kernel
theorem d_NumberReader_readInteger_20 : decode b_NumberReader_readInteger 20 = .ok (.istore_n 3, 1) := by decide +kernel
theorem d_NumberReader_readInteger_21 : decode b_NumberReader_readInteger 21 = .ok (.iload_n 3, 1) := by decide +kernel
theorem d_NumberReader_readInteger_22 : decode b_NumberReader_readInteger 22 = .ok (.invokestatic 125, 3) := by decide +kernel
theorem d_NumberReader_readInteger_25 : decode b_NumberReader_readInteger 25 = .ok (.ifCond .eq 14, 3) := by decide +kernel
theorem d_NumberReader_readInteger_28 : decode b_NumberReader_readInteger 28 = .ok (.aload_n 0, 1) := by decide +kernel
theorem d_NumberReader_readInteger_29 : decode b_NumberReader_readInteger 29 = .ok (.iload_n 3, 1) := by decide +kernel
theorem d_NumberReader_readInteger_30 : decode b_NumberReader_readInteger 30 = .ok (.bipush 48, 2) := by decide +kernel
theorem d_NumberReader_readInteger_32 : decode b_NumberReader_readInteger 32 = .ok (.isub, 1) := by decide +kernel
theorem d_NumberReader_readInteger_33 : decode b_NumberReader_readInteger 33 = .ok (.invokevirtual 129, 3) := by decide +kernel
theorem d_NumberReader_readInteger_36 : decode b_NumberReader_readInteger 36 = .ok (.goto 22, 3) := by decide +kernel
theorem d_NumberReader_readInteger_39 : decode b_NumberReader_readInteger 39 = .ok (.iload_n 2, 1) := by decide +kernel
theorem d_NumberReader_readInteger_40 : decode b_NumberReader_readInteger 40 = .ok (.ifCond .eq 17, 3) := by decide +kernel
theorem d_NumberReader_readInteger_43 : decode b_NumberReader_readInteger 43 = .ok (.iload_n 3, 1) := by decide +kernel
theorem d_NumberReader_readInteger_44 : decode b_NumberReader_readInteger 44 = .ok (.bipush 44, 2) := by decide +kernel
theorem d_NumberReader_readInteger_46 : decode b_NumberReader_readInteger 46 = .ok (.if_icmp .ne 11, 3) := by decide +kernel
theorem d_NumberReader_readInteger_49 : decode b_NumberReader_readInteger 49 = .ok (.aload_n 0, 1) := by decide +kernel
theorem d_NumberReader_readInteger_50 : decode b_NumberReader_readInteger 50 = .ok (.aload_n 1, 1) := by decide +kernel
theorem d_NumberReader_readInteger_51 : decode b_NumberReader_readInteger 51 = .ok (.invokevirtual 133, 3) := by decide +kernel
theorem d_NumberReader_readInteger_54 : decode b_NumberReader_readInteger 54 = .ok (.ifCond .ne 4, 3) := by decide +kernel
theorem d_NumberReader_readInteger_57 : decode b_NumberReader_readInteger 57 = .ok (.return_, 1) := by decide +kernel
theorem d_NumberReader_readInteger_58 : decode b_NumberReader_readInteger 58 = .ok (.aload_n 0, 1) := by decide +kernel
theorem d_NumberReader_readInteger_59 : decode b_NumberReader_readInteger 59 = .ok (.dup, 1) := by decide +kernel
theorem d_NumberReader_readInteger_60 : decode b_NumberReader_readInteger 60 = .ok (.getfield 91, 3) := by decide +kernel
theorem d_NumberReader_readInteger_63 : decode b_NumberReader_readInteger 63 = .ok (.iconst 1, 1) := by decide +kernel
theorem d_NumberReader_readInteger_64 : decode b_NumberReader_readInteger 64 = .ok (.iadd, 1) := by decide +kernel
theorem d_NumberReader_readInteger_65 : decode b_NumberReader_readInteger 65 = .ok (.putfield 91, 3) := by decide +kernel
theorem d_NumberReader_readInteger_68 : decode b_NumberReader_readInteger 68 = .ok (.goto (-68), 3) := by decide +kernel
theorem d_NumberReader_readInteger_71 : decode b_NumberReader_readInteger 71 = .ok (.return_, 1) := by decide +kernel
theorem d_NumberReader_isBetweenDigits_0 : decode b_NumberReader_isBetweenDigits 0 = .ok (.aload_n 0, 1) := by decide +kernel
theorem d_NumberReader_isBetweenDigits_1 : decode b_NumberReader_isBetweenDigits 1 = .ok (.aload_n 1, 1) := by decide +kernel
theorem d_NumberReader_isBetweenDigits_2 : decode b_NumberReader_isBetweenDigits 2 = .ok (.aload_n 0, 1) := by decide +kernel
theorem d_NumberReader_isBetweenDigits_3 : decode b_NumberReader_isBetweenDigits 3 = .ok (.getfield 91, 3) := by decide +kernel
theorem d_NumberReader_isBetweenDigits_6 : decode b_NumberReader_isBetweenDigits 6 = .ok (.iconst 1, 1) := by decide +kernel
theorem d_NumberReader_isBetweenDigits_7 : decode b_NumberReader_isBetweenDigits 7 = .ok (.isub, 1) := by decide +kernel
theorem d_NumberReader_isBetweenDigits_8 : decode b_NumberReader_isBetweenDigits 8 = .ok (.invokevirtual 110, 3) := by decide +kernel
theorem d_NumberReader_isBetweenDigits_11 : decode b_NumberReader_isBetweenDigits 11 = .ok (.invokestatic 125, 3) := by decide +kernel
theorem d_NumberReader_isBetweenDigits_14 : decode b_NumberReader_isBetweenDigits 14 = .ok (.ifCond .eq 24, 3) := by decide +kernel
theorem d_NumberReader_isBetweenDigits_17 : decode b_NumberReader_isBetweenDigits 17 = .ok (.aload_n 0, 1) := by decide +kernel
theorem d_NumberReader_isBetweenDigits_18 : decode b_NumberReader_isBetweenDigits 18 = .ok (.aload_n 1, 1) := by decide +kernel
theorem d_NumberReader_isBetweenDigits_19 : decode b_NumberReader_isBetweenDigits 19 = .ok (.aload_n 0, 1) := by decide +kernel
theorem d_NumberReader_isBetweenDigits_20 : decode b_NumberReader_isBetweenDigits 20 = .ok (.getfield 91, 3) := by decide +kernel
theorem d_NumberReader_isBetweenDigits_23 : decode b_NumberReader_isBetweenDigits 23 = .ok (.iconst 1, 1) := by decide +kernel
theorem d_NumberReader_isBetweenDigits_24 : decode b_NumberReader_isBetweenDigits 24 = .ok (.iadd, 1) := by decide +kernel
theorem d_NumberReader_isBetweenDigits_25 : decode b_NumberReader_isBetweenDigits 25 = .ok (.invokevirtual 110, 3) := by decide +kernel
theorem d_NumberReader_isBetweenDigits_28 : decode b_NumberReader_isBetweenDigits 28 = .ok (.invokestatic 125, 3) := by decide +kernel
theorem d_NumberReader_isBetweenDigits_31 : decode b_NumberReader_isBetweenDigits 31 = .ok (.ifCond .eq 7, 3) := by decide +kernel
theorem d_NumberReader_isBetweenDigits_34 : decode b_NumberReader_isBetweenDigits 34 = .ok (.iconst 1, 1) := by decide +kernel
theorem d_NumberReader_isBetweenDigits_35 : decode b_NumberReader_isBetweenDigits 35 = .ok (.goto 4, 3) := by decide +kernel
theorem d_NumberReader_isBetweenDigits_38 : decode b_NumberReader_isBetweenDigits 38 = .ok (.iconst 0, 1) := by decide +kernel
theorem d_NumberReader_isBetweenDigits_39 : decode b_NumberReader_isBetweenDigits 39 = .ok (.ireturn, 1) := by decide +kernel
theorem d_NumberReader_readFraction_0 : decode b_NumberReader_readFraction 0 = .ok (.aload_n 0, 1) := by decide +kernel
theorem d_NumberReader_readFraction_1 : decode b_NumberReader_readFraction 1 = .ok (.getfield 91, 3) := by decide +kernel
theorem d_NumberReader_readFraction_4 : decode b_NumberReader_readFraction 4 = .ok (.aload_n 0, 1) := by decide +kernel
theorem d_NumberReader_readFraction_5 : decode b_NumberReader_readFraction 5 = .ok (.getfield 15, 3) := by decide +kernel
theorem d_NumberReader_readFraction_8 : decode b_NumberReader_readFraction 8 = .ok (.if_icmp .ge 57, 3) := by decide +kernel
theorem d_NumberReader_readFraction_11 : decode b_NumberReader_readFraction 11 = .ok (.aload_n 0, 1) := by decide +kernel
theorem d_NumberReader_readFraction_12 : decode b_NumberReader_readFraction 12 = .ok (.aload_n 1, 1) := by decide +kernel
theorem d_NumberReader_readFraction_13 : decode b_NumberReader_readFraction 13 = .ok (.aload_n 0, 1) := by decide +kernel
theorem d_NumberReader_readFraction_14 : decode b_NumberReader_readFraction 14 = .ok (.getfield 91, 3) := by decide +kernel
theorem d_NumberReader_readFraction_17 : decode b_NumberReader_readFraction 17 = .ok (.invokevirtual 110, 3) := by decide +kernel
theorem d_NumberReader_readFraction_20 : decode b_NumberReader_readFraction 20 = .ok (.invokestatic 125, 3) := by decide +kernel
theorem d_NumberReader_readFraction_23 : decode b_NumberReader_readFraction 23 = .ok (.ifCond .eq 42, 3) := by decide +kernel
theorem d_NumberReader_readFraction_26 : decode b_NumberReader_readFraction 26 = .ok (.aload_n 0, 1) := by decide +kernel
theorem d_NumberReader_readFraction_27 : decode b_NumberReader_readFraction 27 = .ok (.aload_n 0, 1) := by decide +kernel
theorem d_NumberReader_readFraction_28 : decode b_NumberReader_readFraction 28 = .ok (.aload_n 1, 1) := by decide +kernel
theorem d_NumberReader_readFraction_29 : decode b_NumberReader_readFraction 29 = .ok (.aload_n 0, 1) := by decide +kernel
theorem d_NumberReader_readFraction_30 : decode b_NumberReader_readFraction 30 = .ok (.getfield 91, 3) := by decide +kernel
theorem d_NumberReader_readFraction_33 : decode b_NumberReader_readFraction 33 = .ok (.invokevirtual 110, 3) := by decide +kernel
theorem d_NumberReader_readFraction_36 : decode b_NumberReader_readFraction 36 = .ok (.bipush 48, 2) := by decide +kernel
theorem d_NumberReader_readFraction_38 : decode b_NumberReader_readFraction 38 = .ok (.isub, 1) := by decide +kernel
theorem d_NumberReader_readFraction_39 : decode b_NumberReader_readFraction 39 = .ok (.invokevirtual 129, 3) := by decide +kernel
theorem d_NumberReader_readFraction_42 : decode b_NumberReader_readFraction 42 = .ok (.aload_n 0, 1) := by decide +kernel
theorem d_NumberReader_readFraction_43 : decode b_NumberReader_readFraction 43 = .ok (.dup, 1) := by decide +kernel
theorem d_NumberReader_readFraction_44 : decode b_NumberReader_readFraction 44 = .ok (.getfield 33, 3) := by decide +kernel
theorem d_NumberReader_readFraction_47 : decode b_NumberReader_readFraction 47 = .ok (.iconst 1, 1) := by decide +kernel
theorem d_NumberReader_readFraction_48 : decode b_NumberReader_readFraction 48 = .ok (.iadd, 1) := by decide +kernel
theorem d_NumberReader_readFraction_49 : decode b_NumberReader_readFraction 49 = .ok (.putfield 33, 3) := by decide +kernel
theorem d_NumberReader_readFraction_52 : decode b_NumberReader_readFraction 52 = .ok (.aload_n 0, 1) := by decide +kernel
theorem d_NumberReader_readFraction_53 : decode b_NumberReader_readFraction 53 = .ok (.dup, 1) := by decide +kernel
theorem d_NumberReader_readFraction_54 : decode b_NumberReader_readFraction 54 = .ok (.getfield 91, 3) := by decide +kernel
theorem d_NumberReader_readFraction_57 : decode b_NumberReader_readFraction 57 = .ok (.iconst 1, 1) := by decide +kernel
theorem d_NumberReader_readFraction_58 : decode b_NumberReader_readFraction 58 = .ok (.iadd, 1) := by decide +kernel
theorem d_NumberReader_readFraction_59 : decode b_NumberReader_readFraction 59 = .ok (.putfield 91, 3) := by decide +kernel
theorem d_NumberReader_readFraction_62 : decode b_NumberReader_readFraction 62 = .ok (.goto (-62), 3) := by decide +kernel
theorem d_NumberReader_readFraction_65 : decode b_NumberReader_readFraction 65 = .ok (.return_, 1) := by decide +kernel
theorem d_NumberReader_takeDigit_0 : decode b_NumberReader_takeDigit 0 = .ok (.aload_n 0, 1) := by decide +kernel
theorem d_NumberReader_takeDigit_1 : decode b_NumberReader_takeDigit 1 = .ok (.dup, 1) := by decide +kernel
theorem d_NumberReader_takeDigit_2 : decode b_NumberReader_takeDigit 2 = .ok (.getfield 94, 3) := by decide +kernel
theorem d_NumberReader_takeDigit_5 : decode b_NumberReader_takeDigit 5 = .ok (.iconst 1, 1) := by decide +kernel
theorem d_NumberReader_takeDigit_6 : decode b_NumberReader_takeDigit 6 = .ok (.iadd, 1) := by decide +kernel
theorem d_NumberReader_takeDigit_7 : decode b_NumberReader_takeDigit 7 = .ok (.putfield 94, 3) := by decide +kernel
theorem d_NumberReader_takeDigit_10 : decode b_NumberReader_takeDigit 10 = .ok (.iload_n 1, 1) := by decide +kernel
theorem d_NumberReader_takeDigit_11 : decode b_NumberReader_takeDigit 11 = .ok (.ifCond .ne 21, 3) := by decide +kernel
theorem d_NumberReader_takeDigit_14 : decode b_NumberReader_takeDigit 14 = .ok (.aload_n 0, 1) := by decide +kernel
theorem d_NumberReader_takeDigit_15 : decode b_NumberReader_takeDigit 15 = .ok (.getfield 68, 3) := by decide +kernel
theorem d_NumberReader_takeDigit_18 : decode b_NumberReader_takeDigit 18 = .ok (.ifCond .le 13, 3) := by decide +kernel
theorem d_NumberReader_takeDigit_21 : decode b_NumberReader_takeDigit 21 = .ok (.aload_n 0, 1) := by decide +kernel
theorem d_NumberReader_takeDigit_22 : decode b_NumberReader_takeDigit 22 = .ok (.dup, 1) := by decide +kernel
theorem d_NumberReader_takeDigit_23 : decode b_NumberReader_takeDigit 23 = .ok (.getfield 36, 3) := by decide +kernel
theorem d_NumberReader_takeDigit_26 : decode b_NumberReader_takeDigit 26 = .ok (.iconst 1, 1) := by decide +kernel
theorem d_NumberReader_takeDigit_27 : decode b_NumberReader_takeDigit 27 = .ok (.iadd, 1) := by decide +kernel
theorem d_NumberReader_takeDigit_28 : decode b_NumberReader_takeDigit 28 = .ok (.putfield 36, 3) := by decide +kernel
theorem d_NumberReader_takeDigit_31 : decode b_NumberReader_takeDigit 31 = .ok (.return_, 1) := by decide +kernel
theorem d_NumberReader_takeDigit_32 : decode b_NumberReader_takeDigit 32 = .ok (.aload_n 0, 1) := by decide +kernel
theorem d_NumberReader_takeDigit_33 : decode b_NumberReader_takeDigit 33 = .ok (.aload_n 0, 1) := by decide +kernel
theorem d_NumberReader_takeDigit_34 : decode b_NumberReader_takeDigit 34 = .ok (.getfield 68, 3) := by decide +kernel
theorem d_NumberReader_takeDigit_37 : decode b_NumberReader_takeDigit 37 = .ok (.aload_n 0, 1) := by decide +kernel
theorem d_NumberReader_takeDigit_38 : decode b_NumberReader_takeDigit 38 = .ok (.getfield 36, 3) := by decide +kernel
theorem d_NumberReader_takeDigit_41 : decode b_NumberReader_takeDigit 41 = .ok (.iadd, 1) := by decide +kernel
theorem d_NumberReader_takeDigit_42 : decode b_NumberReader_takeDigit 42 = .ok (.iconst 1, 1) := by decide +kernel
theorem d_NumberReader_takeDigit_43 : decode b_NumberReader_takeDigit 43 = .ok (.iadd, 1) := by decide +kernel
theorem d_NumberReader_takeDigit_44 : decode b_NumberReader_takeDigit 44 = .ok (.putfield 68, 3) := by decide +kernel
theorem d_NumberReader_takeDigit_47 : decode b_NumberReader_takeDigit 47 = .ok (.aload_n 0, 1) := by decide +kernel
theorem d_NumberReader_takeDigit_48 : decode b_NumberReader_takeDigit 48 = .ok (.getfield 68, 3) := by decide +kernel
theorem d_NumberReader_takeDigit_51 : decode b_NumberReader_takeDigit 51 = .ok (.bipush 17, 2) := by decide +kernel
theorem d_NumberReader_takeDigit_53 : decode b_NumberReader_takeDigit 53 = .ok (.if_icmp .gt 24, 3) := by decide +kernel
theorem d_NumberReader_takeDigit_56 : decode b_NumberReader_takeDigit 56 = .ok (.aload_n 0, 1) := by decide +kernel
theorem d_NumberReader_takeDigit_57 : decode b_NumberReader_takeDigit 57 = .ok (.aload_n 0, 1) := by decide +kernel
theorem d_NumberReader_takeDigit_58 : decode b_NumberReader_takeDigit 58 = .ok (.getfield 29, 3) := by decide +kernel
theorem d_NumberReader_takeDigit_61 : decode b_NumberReader_takeDigit 61 = .ok (.aload_n 0, 1) := by decide +kernel
theorem d_NumberReader_takeDigit_62 : decode b_NumberReader_takeDigit 62 = .ok (.getfield 36, 3) := by decide +kernel
theorem d_NumberReader_takeDigit_65 : decode b_NumberReader_takeDigit 65 = .ok (.iconst 1, 1) := by decide +kernel
theorem d_NumberReader_takeDigit_66 : decode b_NumberReader_takeDigit 66 = .ok (.iadd, 1) := by decide +kernel
theorem d_NumberReader_takeDigit_67 : decode b_NumberReader_takeDigit 67 = .ok (.invokestatic 136, 3) := by decide +kernel
theorem d_NumberReader_takeDigit_70 : decode b_NumberReader_takeDigit 70 = .ok (.lmul, 1) := by decide +kernel
theorem d_NumberReader_takeDigit_71 : decode b_NumberReader_takeDigit 71 = .ok (.iload_n 1, 1) := by decide +kernel
theorem d_NumberReader_takeDigit_72 : decode b_NumberReader_takeDigit 72 = .ok (.i2l, 1) := by decide +kernel
theorem d_NumberReader_takeDigit_73 : decode b_NumberReader_takeDigit 73 = .ok (.ladd, 1) := by decide +kernel
theorem d_NumberReader_takeDigit_74 : decode b_NumberReader_takeDigit 74 = .ok (.putfield 29, 3) := by decide +kernel
theorem d_NumberReader_takeDigit_77 : decode b_NumberReader_takeDigit 77 = .ok (.aload_n 0, 1) := by decide +kernel
theorem d_NumberReader_takeDigit_78 : decode b_NumberReader_takeDigit 78 = .ok (.iconst 0, 1) := by decide +kernel
theorem d_NumberReader_takeDigit_79 : decode b_NumberReader_takeDigit 79 = .ok (.putfield 36, 3) := by decide +kernel
theorem d_NumberReader_takeDigit_82 : decode b_NumberReader_takeDigit 82 = .ok (.return_, 1) := by decide +kernel
theorem d_NumberReader_readExponent_0 : decode b_NumberReader_readExponent 0 = .ok (.aload_n 0, 1) := by decide +kernel
theorem d_NumberReader_readExponent_1 : decode b_NumberReader_readExponent 1 = .ok (.aload_n 1, 1) := by decide +kernel
theorem d_NumberReader_readExponent_2 : decode b_NumberReader_readExponent 2 = .ok (.aload_n 0, 1) := by decide +kernel
theorem d_NumberReader_readExponent_3 : decode b_NumberReader_readExponent 3 = .ok (.getfield 91, 3) := by decide +kernel
theorem d_NumberReader_readExponent_6 : decode b_NumberReader_readExponent 6 = .ok (.invokevirtual 110, 3) := by decide +kernel
theorem d_NumberReader_readExponent_9 : decode b_NumberReader_readExponent 9 = .ok (.bipush 69, 2) := by decide +kernel
theorem d_NumberReader_readExponent_11 : decode b_NumberReader_readExponent 11 = .ok (.if_icmp .eq 5, 3) := by decide +kernel
theorem d_NumberReader_readExponent_14 : decode b_NumberReader_readExponent 14 = .ok (.iconst 0, 1) := by decide +kernel
theorem d_NumberReader_readExponent_15 : decode b_NumberReader_readExponent 15 = .ok (.ireturn, 1) := by decide +kernel
theorem d_NumberReader_readExponent_16 : decode b_NumberReader_readExponent 16 = .ok (.aload_n 0, 1) := by decide +kernel
theorem d_NumberReader_readExponent_17 : decode b_NumberReader_readExponent 17 = .ok (.dup, 1) := by decide +kernel
theorem d_NumberReader_readExponent_18 : decode b_NumberReader_readExponent 18 = .ok (.getfield 91, 3) := by decide +kernel
theorem d_NumberReader_readExponent_21 : decode b_NumberReader_readExponent 21 = .ok (.iconst 1, 1) := by decide +kernel
theorem d_NumberReader_readExponent_22 : decode b_NumberReader_readExponent 22 = .ok (.iadd, 1) := by decide +kernel
theorem d_NumberReader_readExponent_23 : decode b_NumberReader_readExponent 23 = .ok (.putfield 91, 3) := by decide +kernel
theorem d_NumberReader_readExponent_26 : decode b_NumberReader_readExponent 26 = .ok (.aload_n 0, 1) := by decide +kernel
theorem d_NumberReader_readExponent_27 : decode b_NumberReader_readExponent 27 = .ok (.aload_n 1, 1) := by decide +kernel
theorem d_NumberReader_readExponent_28 : decode b_NumberReader_readExponent 28 = .ok (.aload_n 0, 1) := by decide +kernel
theorem d_NumberReader_readExponent_29 : decode b_NumberReader_readExponent 29 = .ok (.getfield 91, 3) := by decide +kernel
theorem d_NumberReader_readExponent_32 : decode b_NumberReader_readExponent 32 = .ok (.invokevirtual 110, 3) := by decide +kernel
theorem d_NumberReader_readExponent_35 : decode b_NumberReader_readExponent 35 = .ok (.bipush 45, 2) := by decide +kernel
theorem d_NumberReader_readExponent_37 : decode b_NumberReader_readExponent 37 = .ok (.if_icmp .ne 7, 3) := by decide +kernel
theorem d_NumberReader_readExponent_40 : decode b_NumberReader_readExponent 40 = .ok (.iconst 1, 1) := by decide +kernel
theorem d_NumberReader_readExponent_41 : decode b_NumberReader_readExponent 41 = .ok (.goto 4, 3) := by decide +kernel
theorem d_NumberReader_readExponent_44 : decode b_NumberReader_readExponent 44 = .ok (.iconst 0, 1) := by decide +kernel
theorem d_NumberReader_readExponent_45 : decode b_NumberReader_readExponent 45 = .ok (.istore_n 2, 1) := by decide +kernel
theorem d_NumberReader_readExponent_46 : decode b_NumberReader_readExponent 46 = .ok (.iload_n 2, 1) := by decide +kernel
theorem d_NumberReader_readExponent_47 : decode b_NumberReader_readExponent 47 = .ok (.ifCond .eq 13, 3) := by decide +kernel
theorem d_NumberReader_readExponent_50 : decode b_NumberReader_readExponent 50 = .ok (.aload_n 0, 1) := by decide +kernel
theorem d_NumberReader_readExponent_51 : decode b_NumberReader_readExponent 51 = .ok (.dup, 1) := by decide +kernel
theorem d_NumberReader_readExponent_52 : decode b_NumberReader_readExponent 52 = .ok (.getfield 91, 3) := by decide +kernel
theorem d_NumberReader_readExponent_55 : decode b_NumberReader_readExponent 55 = .ok (.iconst 1, 1) := by decide +kernel
theorem d_NumberReader_readExponent_56 : decode b_NumberReader_readExponent 56 = .ok (.iadd, 1) := by decide +kernel
theorem d_NumberReader_readExponent_57 : decode b_NumberReader_readExponent 57 = .ok (.putfield 91, 3) := by decide +kernel
theorem d_NumberReader_readExponent_60 : decode b_NumberReader_readExponent 60 = .ok (.iconst 0, 1) := by decide +kernel
theorem d_NumberReader_readExponent_61 : decode b_NumberReader_readExponent 61 = .ok (.istore_n 3, 1) := by decide +kernel
theorem d_NumberReader_readExponent_62 : decode b_NumberReader_readExponent 62 = .ok (.iconst 0, 1) := by decide +kernel
theorem d_NumberReader_readExponent_63 : decode b_NumberReader_readExponent 63 = .ok (.istore 4, 2) := by decide +kernel
theorem d_NumberReader_readExponent_65 : decode b_NumberReader_readExponent 65 = .ok (.iload 4, 2) := by decide +kernel
theorem d_NumberReader_readExponent_67 : decode b_NumberReader_readExponent 67 = .ok (.iconst 3, 1) := by decide +kernel
theorem d_NumberReader_readExponent_68 : decode b_NumberReader_readExponent 68 = .ok (.if_icmp .ge 52, 3) := by decide +kernel
theorem d_NumberReader_readExponent_71 : decode b_NumberReader_readExponent 71 = .ok (.aload_n 0, 1) := by decide +kernel
theorem d_NumberReader_readExponent_72 : decode b_NumberReader_readExponent 72 = .ok (.aload_n 1, 1) := by decide +kernel
theorem d_NumberReader_readExponent_73 : decode b_NumberReader_readExponent 73 = .ok (.aload_n 0, 1) := by decide +kernel
theorem d_NumberReader_readExponent_74 : decode b_NumberReader_readExponent 74 = .ok (.getfield 91, 3) := by decide +kernel
theorem d_NumberReader_readExponent_77 : decode b_NumberReader_readExponent 77 = .ok (.invokevirtual 110, 3) := by decide +kernel
theorem d_NumberReader_readExponent_80 : decode b_NumberReader_readExponent 80 = .ok (.invokestatic 125, 3) := by decide +kernel
theorem d_NumberReader_readExponent_83 : decode b_NumberReader_readExponent 83 = .ok (.ifCond .eq 37, 3) := by decide +kernel
theorem d_NumberReader_readExponent_86 : decode b_NumberReader_readExponent 86 = .ok (.iload_n 3, 1) := by decide +kernel
theorem d_NumberReader_readExponent_87 : decode b_NumberReader_readExponent 87 = .ok (.bipush 10, 2) := by decide +kernel
theorem d_NumberReader_readExponent_89 : decode b_NumberReader_readExponent 89 = .ok (.imul, 1) := by decide +kernel
theorem d_NumberReader_readExponent_90 : decode b_NumberReader_readExponent 90 = .ok (.aload_n 0, 1) := by decide +kernel
theorem d_NumberReader_readExponent_91 : decode b_NumberReader_readExponent 91 = .ok (.aload_n 1, 1) := by decide +kernel
theorem d_NumberReader_readExponent_92 : decode b_NumberReader_readExponent 92 = .ok (.aload_n 0, 1) := by decide +kernel
theorem d_NumberReader_readExponent_93 : decode b_NumberReader_readExponent 93 = .ok (.getfield 91, 3) := by decide +kernel
theorem d_NumberReader_readExponent_96 : decode b_NumberReader_readExponent 96 = .ok (.invokevirtual 110, 3) := by decide +kernel
theorem d_NumberReader_readExponent_99 : decode b_NumberReader_readExponent 99 = .ok (.iadd, 1) := by decide +kernel
theorem d_NumberReader_readExponent_100 : decode b_NumberReader_readExponent 100 = .ok (.bipush 48, 2) := by decide +kernel
theorem d_NumberReader_readExponent_102 : decode b_NumberReader_readExponent 102 = .ok (.isub, 1) := by decide +kernel
theorem d_NumberReader_readExponent_103 : decode b_NumberReader_readExponent 103 = .ok (.istore_n 3, 1) := by decide +kernel
theorem d_NumberReader_readExponent_104 : decode b_NumberReader_readExponent 104 = .ok (.iinc 4 1, 3) := by decide +kernel
theorem d_NumberReader_readExponent_107 : decode b_NumberReader_readExponent 107 = .ok (.aload_n 0, 1) := by decide +kernel
theorem d_NumberReader_readExponent_108 : decode b_NumberReader_readExponent 108 = .ok (.dup, 1) := by decide +kernel
theorem d_NumberReader_readExponent_109 : decode b_NumberReader_readExponent 109 = .ok (.getfield 91, 3) := by decide +kernel
theorem d_NumberReader_readExponent_112 : decode b_NumberReader_readExponent 112 = .ok (.iconst 1, 1) := by decide +kernel
theorem d_NumberReader_readExponent_113 : decode b_NumberReader_readExponent 113 = .ok (.iadd, 1) := by decide +kernel
theorem d_NumberReader_readExponent_114 : decode b_NumberReader_readExponent 114 = .ok (.putfield 91, 3) := by decide +kernel
theorem d_NumberReader_readExponent_117 : decode b_NumberReader_readExponent 117 = .ok (.goto (-52), 3) := by decide +kernel
theorem d_NumberReader_readExponent_120 : decode b_NumberReader_readExponent 120 = .ok (.aload_n 0, 1) := by decide +kernel
theorem d_NumberReader_readExponent_121 : decode b_NumberReader_readExponent 121 = .ok (.iload_n 2, 1) := by decide +kernel
theorem d_NumberReader_readExponent_122 : decode b_NumberReader_readExponent 122 = .ok (.ifCond .eq 8, 3) := by decide +kernel
theorem d_NumberReader_readExponent_125 : decode b_NumberReader_readExponent 125 = .ok (.iload_n 3, 1) := by decide +kernel
theorem d_NumberReader_readExponent_126 : decode b_NumberReader_readExponent 126 = .ok (.ineg, 1) := by decide +kernel
theorem d_NumberReader_readExponent_127 : decode b_NumberReader_readExponent 127 = .ok (.goto 4, 3) := by decide +kernel
theorem d_NumberReader_readExponent_130 : decode b_NumberReader_readExponent 130 = .ok (.iload_n 3, 1) := by decide +kernel
theorem d_NumberReader_readExponent_131 : decode b_NumberReader_readExponent 131 = .ok (.putfield 39, 3) := by decide +kernel
theorem d_NumberReader_readExponent_134 : decode b_NumberReader_readExponent 134 = .ok (.iload 4, 2) := by decide +kernel
theorem d_NumberReader_readExponent_136 : decode b_NumberReader_readExponent 136 = .ok (.ifCond .le 7, 3) := by decide +kernel
theorem d_NumberReader_readExponent_139 : decode b_NumberReader_readExponent 139 = .ok (.iconst 1, 1) := by decide +kernel
theorem d_NumberReader_readExponent_140 : decode b_NumberReader_readExponent 140 = .ok (.goto 4, 3) := by decide +kernel
theorem d_NumberReader_readExponent_143 : decode b_NumberReader_readExponent 143 = .ok (.iconst 0, 1) := by decide +kernel
theorem d_NumberReader_readExponent_144 : decode b_NumberReader_readExponent 144 = .ok (.ireturn, 1) := by decide +kernel
theorem d_Deci_init_0 : decode b_Deci_init 0 = .ok (.aload_n 0, 1) := by decide +kernel
theorem d_Deci_init_1 : decode b_Deci_init 1 = .ok (.invokespecial 1, 3) := by decide +kernel
theorem d_Deci_init_4 : decode b_Deci_init 4 = .ok (.aload_n 0, 1) := by decide +kernel
theorem d_Deci_init_5 : decode b_Deci_init 5 = .ok (.new 7, 3) := by decide +kernel
theorem d_Deci_init_8 : decode b_Deci_init 8 = .ok (.dup, 1) := by decide +kernel
theorem d_Deci_init_9 : decode b_Deci_init 9 = .ok (.invokespecial 9, 3) := by decide +kernel
theorem d_Deci_init_12 : decode b_Deci_init 12 = .ok (.putfield 10, 3) := by decide +kernel
theorem d_Deci_init_15 : decode b_Deci_init 15 = .ok (.aload_n 0, 1) := by decide +kernel
theorem d_Deci_init_16 : decode b_Deci_init 16 = .ok (.new 7, 3) := by decide +kernel
theorem d_Deci_init_19 : decode b_Deci_init 19 = .ok (.dup, 1) := by decide +kernel
theorem d_Deci_init_20 : decode b_Deci_init 20 = .ok (.invokespecial 9, 3) := by decide +kernel
theorem d_Deci_init_23 : decode b_Deci_init 23 = .ok (.putfield 16, 3) := by decide +kernel
theorem d_Deci_init_26 : decode b_Deci_init 26 = .ok (.aload_n 0, 1) := by decide +kernel
theorem d_Deci_init_27 : decode b_Deci_init 27 = .ok (.new 19, 3) := by decide +kernel
theorem d_Deci_init_30 : decode b_Deci_init 30 = .ok (.dup, 1) := by decide +kernel
theorem d_Deci_init_31 : decode b_Deci_init 31 = .ok (.invokespecial 21, 3) := by decide +kernel
theorem d_Deci_init_34 : decode b_Deci_init 34 = .ok (.putfield 22, 3) := by decide +kernel
theorem d_Deci_init_37 : decode b_Deci_init 37 = .ok (.aload_n 0, 1) := by decide +kernel
theorem d_Deci_init_38 : decode b_Deci_init 38 = .ok (.new 26, 3) := by decide +kernel
theorem d_Deci_init_41 : decode b_Deci_init 41 = .ok (.dup, 1) := by decide +kernel
theorem d_Deci_init_42 : decode b_Deci_init 42 = .ok (.invokespecial 28, 3) := by decide +kernel
theorem d_Deci_init_45 : decode b_Deci_init 45 = .ok (.putfield 29, 3) := by decide +kernel
theorem d_Deci_init_48 : decode b_Deci_init 48 = .ok (.aload_n 0, 1) := by decide +kernel
theorem d_Deci_init_49 : decode b_Deci_init 49 = .ok (.new 33, 3) := by decide +kernel
theorem d_Deci_init_52 : decode b_Deci_init 52 = .ok (.dup, 1) := by decide +kernel
theorem d_Deci_init_53 : decode b_Deci_init 53 = .ok (.invokespecial 35, 3) := by decide +kernel
theorem d_Deci_init_56 : decode b_Deci_init 56 = .ok (.putfield 36, 3) := by decide +kernel
theorem d_Deci_init_59 : decode b_Deci_init 59 = .ok (.aload_n 0, 1) := by decide +kernel
theorem d_Deci_init_60 : decode b_Deci_init 60 = .ok (.new 40, 3) := by decide +kernel
theorem d_Deci_init_63 : decode b_Deci_init 63 = .ok (.dup, 1) := by decide +kernel
theorem d_Deci_init_64 : decode b_Deci_init 64 = .ok (.invokespecial 42, 3) := by decide +kernel
theorem d_Deci_init_67 : decode b_Deci_init 67 = .ok (.putfield 43, 3) := by decide +kernel
theorem d_Deci_init_70 : decode b_Deci_init 70 = .ok (.aload_n 0, 1) := by decide +kernel
theorem d_Deci_init_71 : decode b_Deci_init 71 = .ok (.new 47, 3) := by decide +kernel
theorem d_Deci_init_74 : decode b_Deci_init 74 = .ok (.dup, 1) := by decide +kernel
theorem d_Deci_init_75 : decode b_Deci_init 75 = .ok (.invokespecial 49, 3) := by decide +kernel
theorem d_Deci_init_78 : decode b_Deci_init 78 = .ok (.putfield 50, 3) := by decide +kernel
theorem d_Deci_init_81 : decode b_Deci_init 81 = .ok (.aload_n 0, 1) := by decide +kernel
theorem d_Deci_init_82 : decode b_Deci_init 82 = .ok (.new 47, 3) := by decide +kernel
theorem d_Deci_init_85 : decode b_Deci_init 85 = .ok (.dup, 1) := by decide +kernel
theorem d_Deci_init_86 : decode b_Deci_init 86 = .ok (.invokespecial 49, 3) := by decide +kernel
theorem d_Deci_init_89 : decode b_Deci_init 89 = .ok (.putfield 54, 3) := by decide +kernel
theorem d_Deci_init_92 : decode b_Deci_init 92 = .ok (.aload_n 0, 1) := by decide +kernel
theorem d_Deci_init_93 : decode b_Deci_init 93 = .ok (.iconst 0, 1) := by decide +kernel
theorem d_Deci_init_94 : decode b_Deci_init 94 = .ok (.putfield 57, 3) := by decide +kernel
theorem d_Deci_init_97 : decode b_Deci_init 97 = .ok (.aload_n 0, 1) := by decide +kernel
theorem d_Deci_init_98 : decode b_Deci_init 98 = .ok (.bipush 6, 2) := by decide +kernel
theorem d_Deci_init_100 : decode b_Deci_init 100 = .ok (.putfield 61, 3) := by decide +kernel
theorem d_Deci_init_103 : decode b_Deci_init 103 = .ok (.aload_n 0, 1) := by decide +kernel
theorem d_Deci_init_104 : decode b_Deci_init 104 = .ok (.lconst 0, 1) := by decide +kernel
theorem d_Deci_init_105 : decode b_Deci_init 105 = .ok (.putfield 65, 3) := by decide +kernel
theorem d_Deci_init_108 : decode b_Deci_init 108 = .ok (.aload_n 0, 1) := by decide +kernel
theorem d_Deci_init_109 : decode b_Deci_init 109 = .ok (.iconst 0, 1) := by decide +kernel
theorem d_Deci_init_110 : decode b_Deci_init 110 = .ok (.putfield 69, 3) := by decide +kernel
theorem d_Deci_init_113 : decode b_Deci_init 113 = .ok (.return_, 1) := by decide +kernel
theorem d_Deci_type_0 : decode b_Deci_type 0 = .ok (.iload_n 1, 1) := by decide +kernel
theorem d_Deci_type_1 : decode b_Deci_type 1 = .ok (.bipush 32, 2) := by decide +kernel
theorem d_Deci_type_3 : decode b_Deci_type 3 = .ok (.if_icmp .lt 9, 3) := by decide +kernel
theorem d_Deci_type_6 : decode b_Deci_type 6 = .ok (.iload_n 1, 1) := by decide +kernel
theorem d_Deci_type_7 : decode b_Deci_type 7 = .ok (.bipush 126, 2) := by decide +kernel
theorem d_Deci_type_9 : decode b_Deci_type 9 = .ok (.if_icmp .le 5, 3) := by decide +kernel
theorem d_Deci_type_12 : decode b_Deci_type 12 = .ok (.iconst 0, 1) := by decide +kernel
theorem d_Deci_type_13 : decode b_Deci_type 13 = .ok (.ireturn, 1) := by decide +kernel
theorem d_Deci_type_14 : decode b_Deci_type 14 = .ok (.aload_n 0, 1) := by decide +kernel
theorem d_Deci_type_15 : decode b_Deci_type 15 = .ok (.getfield 10, 3) := by decide +kernel
theorem d_Deci_type_18 : decode b_Deci_type 18 = .ok (.iload_n 1, 1) := by decide +kernel
theorem d_Deci_type_19 : decode b_Deci_type 19 = .ok (.invokevirtual 72, 3) := by decide +kernel
theorem d_Deci_type_22 : decode b_Deci_type 22 = .ok (.ireturn, 1) := by decide +kernel
theorem d_Deci_wipe_0 : decode b_Deci_wipe 0 = .ok (.aload_n 0, 1) := by decide +kernel
theorem d_Deci_wipe_1 : decode b_Deci_wipe 1 = .ok (.getfield 10, 3) := by decide +kernel
theorem d_Deci_wipe_4 : decode b_Deci_wipe 4 = .ok (.invokevirtual 76, 3) := by decide +kernel
theorem d_Deci_wipe_7 : decode b_Deci_wipe 7 = .ok (.return_, 1) := by decide +kernel
theorem d_Deci_length_0 : decode b_Deci_length 0 = .ok (.aload_n 0, 1) := by decide +kernel
theorem d_Deci_length_1 : decode b_Deci_length 1 = .ok (.getfield 10, 3) := by decide +kernel
theorem d_Deci_length_4 : decode b_Deci_length 4 = .ok (.invokevirtual 79, 3) := by decide +kernel
theorem d_Deci_length_7 : decode b_Deci_length 7 = .ok (.ireturn, 1) := by decide +kernel
theorem d_Deci_apply_0 : decode b_Deci_apply 0 = .ok (.aload_n 0, 1) := by decide +kernel
theorem d_Deci_apply_1 : decode b_Deci_apply 1 = .ok (.getfield 22, 3) := by decide +kernel
theorem d_Deci_apply_4 : decode b_Deci_apply 4 = .ok (.aload_n 0, 1) := by decide +kernel
theorem d_Deci_apply_5 : decode b_Deci_apply 5 = .ok (.getfield 10, 3) := by decide +kernel
theorem d_Deci_apply_8 : decode b_Deci_apply 8 = .ok (.aload_n 0, 1) := by decide +kernel
theorem d_Deci_apply_9 : decode b_Deci_apply 9 = .ok (.getfield 54, 3) := by decide +kernel
theorem d_Deci_apply_12 : decode b_Deci_apply 12 = .ok (.invokevirtual 83, 3) := by decide +kernel
theorem d_Deci_apply_15 : decode b_Deci_apply 15 = .ok (.istore_n 1, 1) := by decide +kernel
theorem d_Deci_apply_16 : decode b_Deci_apply 16 = .ok (.iload_n 1, 1) := by decide +kernel
theorem d_Deci_apply_17 : decode b_Deci_apply 17 = .ok (.iconst (-1), 1) := by decide +kernel
theorem d_Deci_apply_18 : decode b_Deci_apply 18 = .ok (.if_icmp .eq 5, 3) := by decide +kernel
theorem d_Deci_apply_21 : decode b_Deci_apply 21 = .ok (.iload_n 1, 1) := by decide +kernel
theorem d_Deci_apply_22 : decode b_Deci_apply 22 = .ok (.ireturn, 1) := by decide +kernel
theorem d_Deci_apply_23 : decode b_Deci_apply 23 = .ok (.aload_n 0, 1) := by decide +kernel
theorem d_Deci_apply_24 : decode b_Deci_apply 24 = .ok (.getfield 10, 3) := by decide +kernel
theorem d_Deci_apply_27 : decode b_Deci_apply 27 = .ok (.invokevirtual 79, 3) := by decide +kernel
theorem d_Deci_apply_30 : decode b_Deci_apply 30 = .ok (.bipush 40, 2) := by decide +kernel
theorem d_Deci_apply_32 : decode b_Deci_apply 32 = .ok (.if_icmp .le 6, 3) := by decide +kernel
theorem d_Deci_apply_35 : decode b_Deci_apply 35 = .ok (.bipush 40, 2) := by decide +kernel
theorem d_Deci_apply_37 : decode b_Deci_apply 37 = .ok (.ireturn, 1) := by decide +kernel
theorem d_Deci_apply_38 : decode b_Deci_apply 38 = .ok (.aload_n 0, 1) := by decide +kernel
theorem d_Deci_apply_39 : decode b_Deci_apply 39 = .ok (.getfield 54, 3) := by decide +kernel
theorem d_Deci_apply_42 : decode b_Deci_apply 42 = .ok (.invokevirtual 87, 3) := by decide +kernel
theorem d_Deci_apply_45 : decode b_Deci_apply 45 = .ok (.aload_n 0, 1) := by decide +kernel
theorem d_Deci_apply_46 : decode b_Deci_apply 46 = .ok (.getfield 50, 3) := by decide +kernel
theorem d_Deci_apply_49 : decode b_Deci_apply 49 = .ok (.astore_n 2, 1) := by decide +kernel
theorem d_Deci_apply_50 : decode b_Deci_apply 50 = .ok (.aload_n 0, 1) := by decide +kernel
theorem d_Deci_apply_51 : decode b_Deci_apply 51 = .ok (.aload_n 0, 1) := by decide +kernel
theorem d_Deci_apply_52 : decode b_Deci_apply 52 = .ok (.getfield 54, 3) := by decide +kernel
theorem d_Deci_apply_55 : decode b_Deci_apply 55 = .ok (.putfield 50, 3) := by decide +kernel
theorem d_Deci_apply_58 : decode b_Deci_apply 58 = .ok (.aload_n 0, 1) := by decide +kernel
theorem d_Deci_apply_59 : decode b_Deci_apply 59 = .ok (.aload_n 2, 1) := by decide +kernel
theorem d_Deci_apply_60 : decode b_Deci_apply 60 = .ok (.putfield 54, 3) := by decide +kernel
theorem d_Deci_apply_63 : decode b_Deci_apply 63 = .ok (.aload_n 0, 1) := by decide +kernel
theorem d_Deci_apply_64 : decode b_Deci_apply 64 = .ok (.iconst 1, 1) := by decide +kernel
theorem d_Deci_apply_65 : decode b_Deci_apply 65 = .ok (.putfield 57, 3) := by decide +kernel
theorem d_Deci_apply_68 : decode b_Deci_apply 68 = .ok (.iconst (-1), 1) := by decide +kernel
theorem d_Deci_apply_69 : decode b_Deci_apply 69 = .ok (.ireturn, 1) := by decide +kernel
theorem d_Deci_mode_0 : decode b_Deci_mode 0 = .ok (.iload_n 1, 1) := by decide +kernel
theorem d_Deci_mode_1 : decode b_Deci_mode 1 = .ok (.ifCond .lt 9, 3) := by decide +kernel
theorem d_Deci_mode_4 : decode b_Deci_mode 4 = .ok (.iload_n 1, 1) := by decide +kernel
theorem d_Deci_mode_5 : decode b_Deci_mode 5 = .ok (.bipush 7, 2) := by decide +kernel
theorem d_Deci_mode_7 : decode b_Deci_mode 7 = .ok (.if_icmp .le 5, 3) := by decide +kernel
theorem d_Deci_mode_10 : decode b_Deci_mode 10 = .ok (.iconst 0, 1) := by decide +kernel
theorem d_Deci_mode_11 : decode b_Deci_mode 11 = .ok (.ireturn, 1) := by decide +kernel
theorem d_Deci_mode_12 : decode b_Deci_mode 12 = .ok (.aload_n 0, 1) := by decide +kernel
theorem d_Deci_mode_13 : decode b_Deci_mode 13 = .ok (.iload_n 1, 1) := by decide +kernel
theorem d_Deci_mode_14 : decode b_Deci_mode 14 = .ok (.putfield 61, 3) := by decide +kernel
theorem d_Deci_mode_17 : decode b_Deci_mode 17 = .ok (.iconst 1, 1) := by decide +kernel
theorem d_Deci_mode_18 : decode b_Deci_mode 18 = .ok (.ireturn, 1) := by decide +kernel
theorem d_Deci_setting_0 : decode b_Deci_setting 0 = .ok (.aload_n 0, 1) := by decide +kernel
theorem d_Deci_setting_1 : decode b_Deci_setting 1 = .ok (.getfield 57, 3) := by decide +kernel
theorem d_Deci_setting_4 : decode b_Deci_setting 4 = .ok (.ifCond .ne 5, 3) := by decide +kernel
theorem d_Deci_setting_7 : decode b_Deci_setting 7 = .ok (.iconst (-1), 1) := by decide +kernel
theorem d_Deci_setting_8 : decode b_Deci_setting 8 = .ok (.ireturn, 1) := by decide +kernel
theorem d_Deci_setting_9 : decode b_Deci_setting 9 = .ok (.aload_n 0, 1) := by decide +kernel
theorem d_Deci_setting_10 : decode b_Deci_setting 10 = .ok (.getfield 50, 3) := by decide +kernel
theorem d_Deci_setting_13 : decode b_Deci_setting 13 = .ok (.getfield 90, 3) := by decide +kernel
theorem d_Deci_setting_16 : decode b_Deci_setting 16 = .ok (.getfield 94, 3) := by decide +kernel
theorem d_Deci_setting_19 : decode b_Deci_setting 19 = .ok (.astore_n 2, 1) := by decide +kernel
theorem d_Deci_setting_20 : decode b_Deci_setting 20 = .ok (.iload_n 1, 1) := by decide +kernel
theorem d_Deci_setting_21 : decode b_Deci_setting 21 = .ok (.tableswitch 101 0 6 #[43, 48, 53, 58, 63, 68, 85], 43) := by decide +kernel
theorem d_Deci_setting_64 : decode b_Deci_setting 64 = .ok (.aload_n 2, 1) := by decide +kernel
theorem d_Deci_setting_65 : decode b_Deci_setting 65 = .ok (.getfield 100, 3) := by decide +kernel
theorem d_Deci_setting_68 : decode b_Deci_setting 68 = .ok (.ireturn, 1) := by decide +kernel
theorem d_Deci_setting_69 : decode b_Deci_setting 69 = .ok (.aload_n 2, 1) := by decide +kernel
theorem d_Deci_setting_70 : decode b_Deci_setting 70 = .ok (.getfield 105, 3) := by decide +kernel
theorem d_Deci_setting_73 : decode b_Deci_setting 73 = .ok (.ireturn, 1) := by decide +kernel
theorem d_Deci_setting_74 : decode b_Deci_setting 74 = .ok (.aload_n 2, 1) := by decide +kernel
theorem d_Deci_setting_75 : decode b_Deci_setting 75 = .ok (.getfield 108, 3) := by decide +kernel
theorem d_Deci_setting_78 : decode b_Deci_setting 78 = .ok (.ireturn, 1) := by decide +kernel
theorem d_Deci_setting_79 : decode b_Deci_setting 79 = .ok (.aload_n 2, 1) := by decide +kernel
theorem d_Deci_setting_80 : decode b_Deci_setting 80 = .ok (.getfield 111, 3) := by decide +kernel
theorem d_Deci_setting_83 : decode b_Deci_setting 83 = .ok (.ireturn, 1) := by decide +kernel
theorem d_Deci_setting_84 : decode b_Deci_setting 84 = .ok (.aload_n 2, 1) := by decide +kernel
theorem d_Deci_setting_85 : decode b_Deci_setting 85 = .ok (.getfield 114, 3) := by decide +kernel
theorem d_Deci_setting_88 : decode b_Deci_setting 88 = .ok (.ireturn, 1) := by decide +kernel
theorem d_Deci_setting_89 : decode b_Deci_setting 89 = .ok (.aload_n 0, 1) := by decide +kernel
theorem d_Deci_setting_90 : decode b_Deci_setting 90 = .ok (.getfield 50, 3) := by decide +kernel
theorem d_Deci_setting_93 : decode b_Deci_setting 93 = .ok (.getfield 117, 3) := by decide +kernel
theorem d_Deci_setting_96 : decode b_Deci_setting 96 = .ok (.ifCond .eq 8, 3) := by decide +kernel
theorem d_Deci_setting_99 : decode b_Deci_setting 99 = .ok (.bipush 100, 2) := by decide +kernel
theorem d_Deci_setting_101 : decode b_Deci_setting 101 = .ok (.goto 4, 3) := by decide +kernel
theorem d_Deci_setting_104 : decode b_Deci_setting 104 = .ok (.iconst 1, 1) := by decide +kernel
theorem d_Deci_setting_105 : decode b_Deci_setting 105 = .ok (.ireturn, 1) := by decide +kernel
theorem d_Deci_setting_106 : decode b_Deci_setting 106 = .ok (.aload_n 0, 1) := by decide +kernel
theorem d_Deci_setting_107 : decode b_Deci_setting 107 = .ok (.getfield 50, 3) := by decide +kernel
theorem d_Deci_setting_110 : decode b_Deci_setting 110 = .ok (.getfield 120, 3) := by decide +kernel
theorem d_Deci_setting_113 : decode b_Deci_setting 113 = .ok (.ifCond .eq 7, 3) := by decide +kernel
theorem d_Deci_setting_116 : decode b_Deci_setting 116 = .ok (.iconst 1, 1) := by decide +kernel
theorem d_Deci_setting_117 : decode b_Deci_setting 117 = .ok (.goto 4, 3) := by decide +kernel
theorem d_Deci_setting_120 : decode b_Deci_setting 120 = .ok (.iconst 0, 1) := by decide +kernel
theorem d_Deci_setting_121 : decode b_Deci_setting 121 = .ok (.ireturn, 1) := by decide +kernel
theorem d_Deci_setting_122 : decode b_Deci_setting 122 = .ok (.iconst (-1), 1) := by decide +kernel
theorem d_Deci_setting_123 : decode b_Deci_setting 123 = .ok (.ireturn, 1) := by decide +kernel
theorem d_Deci_format_0 : decode b_Deci_format 0 = .ok (.aload_n 0, 1) := by decide +kernel
theorem d_Deci_format_1 : decode b_Deci_format 1 = .ok (.getfield 57, 3) := by decide +kernel
theorem d_Deci_format_4 : decode b_Deci_format 4 = .ok (.ifCond .ne 5, 3) := by decide +kernel
theorem d_Deci_format_7 : decode b_Deci_format 7 = .ok (.iconst (-1), 1) := by decide +kernel
theorem d_Deci_format_8 : decode b_Deci_format 8 = .ok (.ireturn, 1) := by decide +kernel
theorem d_Deci_format_9 : decode b_Deci_format 9 = .ok (.lload_n 1, 1) := by decide +kernel
theorem d_Deci_format_10 : decode b_Deci_format 10 = .ok (.ldc2_w 123, 3) := by decide +kernel
theorem d_Deci_format_13 : decode b_Deci_format 13 = .ok (.lcmp, 1) := by decide +kernel
theorem d_Deci_format_14 : decode b_Deci_format 14 = .ok (.ifCond .lt 21, 3) := by decide +kernel
theorem d_Deci_format_17 : decode b_Deci_format 17 = .ok (.lload_n 1, 1) := by decide +kernel
theorem d_Deci_format_18 : decode b_Deci_format 18 = .ok (.ldc2_w 125, 3) := by decide +kernel
theorem d_Deci_format_21 : decode b_Deci_format 21 = .ok (.lcmp, 1) := by decide +kernel
theorem d_Deci_format_22 : decode b_Deci_format 22 = .ok (.ifCond .gt 13, 3) := by decide +kernel
theorem d_Deci_format_25 : decode b_Deci_format 25 = .ok (.iload_n 3, 1) := by decide +kernel
theorem d_Deci_format_26 : decode b_Deci_format 26 = .ok (.ifCond .lt 9, 3) := by decide +kernel
theorem d_Deci_format_29 : decode b_Deci_format 29 = .ok (.iload_n 3, 1) := by decide +kernel
theorem d_Deci_format_30 : decode b_Deci_format 30 = .ok (.bipush 9, 2) := by decide +kernel
theorem d_Deci_format_32 : decode b_Deci_format 32 = .ok (.if_icmp .le 6, 3) := by decide +kernel
theorem d_Deci_format_35 : decode b_Deci_format 35 = .ok (.bipush (-2), 2) := by decide +kernel
theorem d_Deci_format_37 : decode b_Deci_format 37 = .ok (.ireturn, 1) := by decide +kernel
theorem d_Deci_format_38 : decode b_Deci_format 38 = .ok (.aload_n 0, 1) := by decide +kernel
theorem d_Deci_format_39 : decode b_Deci_format 39 = .ok (.getfield 50, 3) := by decide +kernel
theorem d_Deci_format_42 : decode b_Deci_format 42 = .ok (.getfield 117, 3) := by decide +kernel
theorem d_Deci_format_45 : decode b_Deci_format 45 = .ok (.ifCond .eq 11, 3) := by decide +kernel
theorem d_Deci_format_48 : decode b_Deci_format 48 = .ok (.lload_n 1, 1) := by decide +kernel
theorem d_Deci_format_49 : decode b_Deci_format 49 = .ok (.ldc2_w 127, 3) := by decide +kernel
theorem d_Deci_format_52 : decode b_Deci_format 52 = .ok (.lmul, 1) := by decide +kernel
theorem d_Deci_format_53 : decode b_Deci_format 53 = .ok (.goto 4, 3) := by decide +kernel
theorem d_Deci_format_56 : decode b_Deci_format 56 = .ok (.lload_n 1, 1) := by decide +kernel
theorem d_Deci_format_57 : decode b_Deci_format 57 = .ok (.lstore 4, 2) := by decide +kernel
theorem d_Deci_format_59 : decode b_Deci_format 59 = .ok (.aload_n 0, 1) := by decide +kernel
theorem d_Deci_format_60 : decode b_Deci_format 60 = .ok (.getfield 36, 3) := by decide +kernel
theorem d_Deci_format_63 : decode b_Deci_format 63 = .ok (.aload_n 0, 1) := by decide +kernel
theorem d_Deci_format_64 : decode b_Deci_format 64 = .ok (.getfield 50, 3) := by decide +kernel
theorem d_Deci_format_67 : decode b_Deci_format 67 = .ok (.getfield 90, 3) := by decide +kernel
theorem d_Deci_format_70 : decode b_Deci_format 70 = .ok (.getfield 94, 3) := by decide +kernel
theorem d_Deci_format_73 : decode b_Deci_format 73 = .ok (.lload 4, 2) := by decide +kernel
theorem d_Deci_format_75 : decode b_Deci_format 75 = .ok (.iload_n 3, 1) := by decide +kernel
theorem d_Deci_format_76 : decode b_Deci_format 76 = .ok (.aload_n 0, 1) := by decide +kernel
theorem d_Deci_format_77 : decode b_Deci_format 77 = .ok (.getfield 61, 3) := by decide +kernel
theorem d_Deci_format_80 : decode b_Deci_format 80 = .ok (.invokevirtual 129, 3) := by decide +kernel
theorem d_Deci_format_83 : decode b_Deci_format 83 = .ok (.ifCond .ne 6, 3) := by decide +kernel
theorem d_Deci_format_86 : decode b_Deci_format 86 = .ok (.bipush (-3), 2) := by decide +kernel
theorem d_Deci_format_88 : decode b_Deci_format 88 = .ok (.ireturn, 1) := by decide +kernel
theorem d_Deci_format_89 : decode b_Deci_format 89 = .ok (.aload_n 0, 1) := by decide +kernel
theorem d_Deci_format_90 : decode b_Deci_format 90 = .ok (.getfield 36, 3) := by decide +kernel
theorem d_Deci_format_93 : decode b_Deci_format 93 = .ok (.aload_n 0, 1) := by decide +kernel
theorem d_Deci_format_94 : decode b_Deci_format 94 = .ok (.getfield 50, 3) := by decide +kernel
theorem d_Deci_format_97 : decode b_Deci_format 97 = .ok (.aload_n 0, 1) := by decide +kernel
theorem d_Deci_format_98 : decode b_Deci_format 98 = .ok (.getfield 16, 3) := by decide +kernel
theorem d_Deci_format_101 : decode b_Deci_format 101 = .ok (.invokevirtual 133, 3) := by decide +kernel
theorem d_Deci_format_104 : decode b_Deci_format 104 = .ok (.aload_n 0, 1) := by decide +kernel
theorem d_Deci_format_105 : decode b_Deci_format 105 = .ok (.getfield 16, 3) := by decide +kernel
theorem d_Deci_format_108 : decode b_Deci_format 108 = .ok (.invokevirtual 79, 3) := by decide +kernel
theorem d_Deci_format_111 : decode b_Deci_format 111 = .ok (.ireturn, 1) := by decide +kernel
end
section
theorem d_Deci_print_0 : decode b_Deci_print 0 = .ok (.aload_n 0, 1) := by decide +kernel
theorem d_Deci_print_1 : decode b_Deci_print 1 = .ok (.getfield 57, 3) := by decide +kernel
theorem d_Deci_print_4 : decode b_Deci_print 4 = .ok (.ifCond .ne 5, 3) := by decide +kernel
theorem d_Deci_print_7 : decode b_Deci_print 7 = .ok (.iconst (-1), 1) := by decide +kernel
theorem d_Deci_print_8 : decode b_Deci_print 8 = .ok (.ireturn, 1) := by decide +kernel
theorem d_Deci_print_9 : decode b_Deci_print 9 = .ok (.aload_n 0, 1) := by decide +kernel
theorem d_Deci_print_10 : decode b_Deci_print 10 = .ok (.getfield 29, 3) := by decide +kernel
theorem d_Deci_print_13 : decode b_Deci_print 13 = .ok (.aload_n 0, 1) := by decide +kernel
theorem d_Deci_print_14 : decode b_Deci_print 14 = .ok (.getfield 50, 3) := by decide +kernel
theorem d_Deci_print_17 : decode b_Deci_print 17 = .ok (.aload_n 0, 1) := by decide +kernel
theorem d_Deci_print_18 : decode b_Deci_print 18 = .ok (.getfield 16, 3) := by decide +kernel
theorem d_Deci_print_21 : decode b_Deci_print 21 = .ok (.invokevirtual 137, 3) := by decide +kernel
theorem d_Deci_print_24 : decode b_Deci_print 24 = .ok (.aload_n 0, 1) := by decide +kernel
theorem d_Deci_print_25 : decode b_Deci_print 25 = .ok (.getfield 36, 3) := by decide +kernel
theorem d_Deci_print_28 : decode b_Deci_print 28 = .ok (.invokevirtual 138, 3) := by decide +kernel
theorem d_Deci_print_31 : decode b_Deci_print 31 = .ok (.aload_n 0, 1) := by decide +kernel
theorem d_Deci_print_32 : decode b_Deci_print 32 = .ok (.getfield 16, 3) := by decide +kernel
theorem d_Deci_print_35 : decode b_Deci_print 35 = .ok (.invokevirtual 79, 3) := by decide +kernel
theorem d_Deci_print_38 : decode b_Deci_print 38 = .ok (.ireturn, 1) := by decide +kernel
theorem d_Deci_out_0 : decode b_Deci_out 0 = .ok (.aload_n 0, 1) := by decide +kernel
theorem d_Deci_out_1 : decode b_Deci_out 1 = .ok (.getfield 16, 3) := by decide +kernel
theorem d_Deci_out_4 : decode b_Deci_out 4 = .ok (.iload_n 1, 1) := by decide +kernel
theorem d_Deci_out_5 : decode b_Deci_out 5 = .ok (.invokevirtual 141, 3) := by decide +kernel
theorem d_Deci_out_8 : decode b_Deci_out 8 = .ok (.ireturn, 1) := by decide +kernel
theorem d_Deci_field_0 : decode b_Deci_field 0 = .ok (.aload_n 0, 1) := by decide +kernel
theorem d_Deci_field_1 : decode b_Deci_field 1 = .ok (.getfield 36, 3) := by decide +kernel
theorem d_Deci_field_4 : decode b_Deci_field 4 = .ok (.iload_n 1, 1) := by decide +kernel
theorem d_Deci_field_5 : decode b_Deci_field 5 = .ok (.iload_n 2, 1) := by decide +kernel
theorem d_Deci_field_6 : decode b_Deci_field 6 = .ok (.invokevirtual 145, 3) := by decide +kernel
theorem d_Deci_field_9 : decode b_Deci_field 9 = .ok (.ireturn, 1) := by decide +kernel
theorem d_Deci_copy_0 : decode b_Deci_copy 0 = .ok (.aload_n 0, 1) := by decide +kernel
theorem d_Deci_copy_1 : decode b_Deci_copy 1 = .ok (.getfield 10, 3) := by decide +kernel
theorem d_Deci_copy_4 : decode b_Deci_copy 4 = .ok (.aload_n 0, 1) := by decide +kernel
theorem d_Deci_copy_5 : decode b_Deci_copy 5 = .ok (.getfield 16, 3) := by decide +kernel
theorem d_Deci_copy_8 : decode b_Deci_copy 8 = .ok (.invokevirtual 149, 3) := by decide +kernel
theorem d_Deci_copy_11 : decode b_Deci_copy 11 = .ok (.return_, 1) := by decide +kernel
theorem d_Deci_parse_0 : decode b_Deci_parse 0 = .ok (.aload_n 0, 1) := by decide +kernel
theorem d_Deci_parse_1 : decode b_Deci_parse 1 = .ok (.getfield 57, 3) := by decide +kernel
theorem d_Deci_parse_4 : decode b_Deci_parse 4 = .ok (.ifCond .eq 21, 3) := by decide +kernel
theorem d_Deci_parse_7 : decode b_Deci_parse 7 = .ok (.aload_n 0, 1) := by decide +kernel
theorem d_Deci_parse_8 : decode b_Deci_parse 8 = .ok (.getfield 43, 3) := by decide +kernel
theorem d_Deci_parse_11 : decode b_Deci_parse 11 = .ok (.aload_n 0, 1) := by decide +kernel
theorem d_Deci_parse_12 : decode b_Deci_parse 12 = .ok (.getfield 10, 3) := by decide +kernel
theorem d_Deci_parse_15 : decode b_Deci_parse 15 = .ok (.aload_n 0, 1) := by decide +kernel
theorem d_Deci_parse_16 : decode b_Deci_parse 16 = .ok (.getfield 50, 3) := by decide +kernel
theorem d_Deci_parse_19 : decode b_Deci_parse 19 = .ok (.invokevirtual 153, 3) := by decide +kernel
theorem d_Deci_parse_22 : decode b_Deci_parse 22 = .ok (.ifCond .ne 5, 3) := by decide +kernel
theorem d_Deci_parse_25 : decode b_Deci_parse 25 = .ok (.iconst 0, 1) := by decide +kernel
theorem d_Deci_parse_26 : decode b_Deci_parse 26 = .ok (.ireturn, 1) := by decide +kernel
theorem d_Deci_parse_27 : decode b_Deci_parse 27 = .ok (.aload_n 0, 1) := by decide +kernel
theorem d_Deci_parse_28 : decode b_Deci_parse 28 = .ok (.aload_n 0, 1) := by decide +kernel
theorem d_Deci_parse_29 : decode b_Deci_parse 29 = .ok (.getfield 43, 3) := by decide +kernel
theorem d_Deci_parse_32 : decode b_Deci_parse 32 = .ok (.invokevirtual 156, 3) := by decide +kernel
theorem d_Deci_parse_35 : decode b_Deci_parse 35 = .ok (.putfield 65, 3) := by decide +kernel
theorem d_Deci_parse_38 : decode b_Deci_parse 38 = .ok (.aload_n 0, 1) := by decide +kernel
theorem d_Deci_parse_39 : decode b_Deci_parse 39 = .ok (.aload_n 0, 1) := by decide +kernel
theorem d_Deci_parse_40 : decode b_Deci_parse 40 = .ok (.getfield 43, 3) := by decide +kernel
theorem d_Deci_parse_43 : decode b_Deci_parse 43 = .ok (.invokevirtual 160, 3) := by decide +kernel
theorem d_Deci_parse_46 : decode b_Deci_parse 46 = .ok (.putfield 69, 3) := by decide +kernel
theorem d_Deci_parse_49 : decode b_Deci_parse 49 = .ok (.iconst 1, 1) := by decide +kernel
theorem d_Deci_parse_50 : decode b_Deci_parse 50 = .ok (.ireturn, 1) := by decide +kernel
theorem d_Deci_value_0 : decode b_Deci_value 0 = .ok (.aload_n 0, 1) := by decide +kernel
theorem d_Deci_value_1 : decode b_Deci_value 1 = .ok (.getfield 65, 3) := by decide +kernel
theorem d_Deci_value_4 : decode b_Deci_value 4 = .ok (.lreturn, 1) := by decide +kernel
theorem d_Deci_scale_0 : decode b_Deci_scale 0 = .ok (.aload_n 0, 1) := by decide +kernel
theorem d_Deci_scale_1 : decode b_Deci_scale 1 = .ok (.getfield 69, 3) := by decide +kernel
theorem d_Deci_scale_4 : decode b_Deci_scale 4 = .ok (.ireturn, 1) := by decide +kernel
theorem d_Deci_tenTo_0 : decode b_Deci_tenTo 0 = .ok (.getstatic 163, 3) := by decide +kernel
theorem d_Deci_tenTo_3 : decode b_Deci_tenTo 3 = .ok (.iconst 0, 1) := by decide +kernel
theorem d_Deci_tenTo_4 : decode b_Deci_tenTo 4 = .ok (.iload_n 0, 1) := by decide +kernel
theorem d_Deci_tenTo_5 : decode b_Deci_tenTo 5 = .ok (.getstatic 163, 3) := by decide +kernel
theorem d_Deci_tenTo_8 : decode b_Deci_tenTo 8 = .ok (.arraylength, 1) := by decide +kernel
theorem d_Deci_tenTo_9 : decode b_Deci_tenTo 9 = .ok (.iconst 1, 1) := by decide +kernel
theorem d_Deci_tenTo_10 : decode b_Deci_tenTo 10 = .ok (.isub, 1) := by decide +kernel
theorem d_Deci_tenTo_11 : decode b_Deci_tenTo 11 = .ok (.invokestatic 167, 3) := by decide +kernel
theorem d_Deci_tenTo_14 : decode b_Deci_tenTo 14 = .ok (.invokestatic 173, 3) := by decide +kernel
theorem d_Deci_tenTo_17 : decode b_Deci_tenTo 17 = .ok (.laload, 1) := by decide +kernel
theorem d_Deci_tenTo_18 : decode b_Deci_tenTo 18 = .ok (.lreturn, 1) := by decide +kernel
theorem d_Deci_digitCount_0 : decode b_Deci_digitCount 0 = .ok (.iconst 0, 1) := by decide +kernel
theorem d_Deci_digitCount_1 : decode b_Deci_digitCount 1 = .ok (.istore_n 2, 1) := by decide +kernel
theorem d_Deci_digitCount_2 : decode b_Deci_digitCount 2 = .ok (.iload_n 2, 1) := by decide +kernel
theorem d_Deci_digitCount_3 : decode b_Deci_digitCount 3 = .ok (.getstatic 163, 3) := by decide +kernel
theorem d_Deci_digitCount_6 : decode b_Deci_digitCount 6 = .ok (.arraylength, 1) := by decide +kernel
theorem d_Deci_digitCount_7 : decode b_Deci_digitCount 7 = .ok (.if_icmp .ge 19, 3) := by decide +kernel
theorem d_Deci_digitCount_10 : decode b_Deci_digitCount 10 = .ok (.lload_n 0, 1) := by decide +kernel
theorem d_Deci_digitCount_11 : decode b_Deci_digitCount 11 = .ok (.getstatic 163, 3) := by decide +kernel
theorem d_Deci_digitCount_14 : decode b_Deci_digitCount 14 = .ok (.iload_n 2, 1) := by decide +kernel
theorem d_Deci_digitCount_15 : decode b_Deci_digitCount 15 = .ok (.laload, 1) := by decide +kernel
theorem d_Deci_digitCount_16 : decode b_Deci_digitCount 16 = .ok (.lcmp, 1) := by decide +kernel
theorem d_Deci_digitCount_17 : decode b_Deci_digitCount 17 = .ok (.ifCond .lt 9, 3) := by decide +kernel
theorem d_Deci_digitCount_20 : decode b_Deci_digitCount 20 = .ok (.iinc 2 1, 3) := by decide +kernel
theorem d_Deci_digitCount_23 : decode b_Deci_digitCount 23 = .ok (.goto (-21), 3) := by decide +kernel
theorem d_Deci_digitCount_26 : decode b_Deci_digitCount 26 = .ok (.iload_n 2, 1) := by decide +kernel
theorem d_Deci_digitCount_27 : decode b_Deci_digitCount 27 = .ok (.ireturn, 1) := by decide +kernel
theorem d_Deci_isDigit_0 : decode b_Deci_isDigit 0 = .ok (.iload_n 0, 1) := by decide +kernel
theorem d_Deci_isDigit_1 : decode b_Deci_isDigit 1 = .ok (.bipush 48, 2) := by decide +kernel
theorem d_Deci_isDigit_3 : decode b_Deci_isDigit 3 = .ok (.if_icmp .lt 13, 3) := by decide +kernel
theorem d_Deci_isDigit_6 : decode b_Deci_isDigit 6 = .ok (.iload_n 0, 1) := by decide +kernel
theorem d_Deci_isDigit_7 : decode b_Deci_isDigit 7 = .ok (.bipush 57, 2) := by decide +kernel
theorem d_Deci_isDigit_9 : decode b_Deci_isDigit 9 = .ok (.if_icmp .gt 7, 3) := by decide +kernel
theorem d_Deci_isDigit_12 : decode b_Deci_isDigit 12 = .ok (.iconst 1, 1) := by decide +kernel
theorem d_Deci_isDigit_13 : decode b_Deci_isDigit 13 = .ok (.goto 4, 3) := by decide +kernel
theorem d_Deci_isDigit_16 : decode b_Deci_isDigit 16 = .ok (.iconst 0, 1) := by decide +kernel
theorem d_Deci_isDigit_17 : decode b_Deci_isDigit 17 = .ok (.ireturn, 1) := by decide +kernel
theorem d_Deci_isSpecial_0 : decode b_Deci_isSpecial 0 = .ok (.iload_n 0, 1) := by decide +kernel
theorem d_Deci_isSpecial_1 : decode b_Deci_isSpecial 1 = .ok (.bipush 35, 2) := by decide +kernel
theorem d_Deci_isSpecial_3 : decode b_Deci_isSpecial 3 = .ok (.if_icmp .eq 33, 3) := by decide +kernel
theorem d_Deci_isSpecial_6 : decode b_Deci_isSpecial 6 = .ok (.iload_n 0, 1) := by decide +kernel
theorem d_Deci_isSpecial_7 : decode b_Deci_isSpecial 7 = .ok (.bipush 48, 2) := by decide +kernel
theorem d_Deci_isSpecial_9 : decode b_Deci_isSpecial 9 = .ok (.if_icmp .eq 27, 3) := by decide +kernel
theorem d_Deci_isSpecial_12 : decode b_Deci_isSpecial 12 = .ok (.iload_n 0, 1) := by decide +kernel
theorem d_Deci_isSpecial_13 : decode b_Deci_isSpecial 13 = .ok (.bipush 44, 2) := by decide +kernel
theorem d_Deci_isSpecial_15 : decode b_Deci_isSpecial 15 = .ok (.if_icmp .eq 21, 3) := by decide +kernel
theorem d_Deci_isSpecial_18 : decode b_Deci_isSpecial 18 = .ok (.iload_n 0, 1) := by decide +kernel
theorem d_Deci_isSpecial_19 : decode b_Deci_isSpecial 19 = .ok (.bipush 46, 2) := by decide +kernel
theorem d_Deci_isSpecial_21 : decode b_Deci_isSpecial 21 = .ok (.if_icmp .eq 15, 3) := by decide +kernel
theorem d_Deci_isSpecial_24 : decode b_Deci_isSpecial 24 = .ok (.iload_n 0, 1) := by decide +kernel
theorem d_Deci_isSpecial_25 : decode b_Deci_isSpecial 25 = .ok (.bipush 59, 2) := by decide +kernel
theorem d_Deci_isSpecial_27 : decode b_Deci_isSpecial 27 = .ok (.if_icmp .eq 9, 3) := by decide +kernel
theorem d_Deci_isSpecial_30 : decode b_Deci_isSpecial 30 = .ok (.iload_n 0, 1) := by decide +kernel
theorem d_Deci_isSpecial_31 : decode b_Deci_isSpecial 31 = .ok (.bipush 69, 2) := by decide +kernel
theorem d_Deci_isSpecial_33 : decode b_Deci_isSpecial 33 = .ok (.if_icmp .ne 7, 3) := by decide +kernel
theorem d_Deci_isSpecial_36 : decode b_Deci_isSpecial 36 = .ok (.iconst 1, 1) := by decide +kernel
theorem d_Deci_isSpecial_37 : decode b_Deci_isSpecial 37 = .ok (.goto 4, 3) := by decide +kernel
theorem d_Deci_isSpecial_40 : decode b_Deci_isSpecial 40 = .ok (.iconst 0, 1) := by decide +kernel
theorem d_Deci_isSpecial_41 : decode b_Deci_isSpecial 41 = .ok (.ireturn, 1) := by decide +kernel
theorem d_Model_init_0 : decode b_Model_init 0 = .ok (.aload_n 0, 1) := by decide +kernel
theorem d_Model_init_1 : decode b_Model_init 1 = .ok (.invokespecial 1, 3) := by decide +kernel
theorem d_Model_init_4 : decode b_Model_init 4 = .ok (.aload_n 0, 1) := by decide +kernel
theorem d_Model_init_5 : decode b_Model_init 5 = .ok (.bipush 120, 2) := by decide +kernel
theorem d_Model_init_7 : decode b_Model_init 7 = .ok (.newarray .char, 2) := by decide +kernel
theorem d_Model_init_9 : decode b_Model_init 9 = .ok (.putfield 7, 3) := by decide +kernel
theorem d_Model_init_12 : decode b_Model_init 12 = .ok (.aload_n 0, 1) := by decide +kernel
theorem d_Model_init_13 : decode b_Model_init 13 = .ok (.sipush 200, 3) := by decide +kernel
theorem d_Model_init_16 : decode b_Model_init 16 = .ok (.newarray .char, 2) := by decide +kernel
theorem d_Model_init_18 : decode b_Model_init 18 = .ok (.putfield 13, 3) := by decide +kernel
theorem d_Model_init_21 : decode b_Model_init 21 = .ok (.aload_n 0, 1) := by decide +kernel
theorem d_Model_init_22 : decode b_Model_init 22 = .ok (.bipush 6, 2) := by decide +kernel
theorem d_Model_init_24 : decode b_Model_init 24 = .ok (.putfield 16, 3) := by decide +kernel
theorem d_Model_init_27 : decode b_Model_init 27 = .ok (.aload_n 0, 1) := by decide +kernel
theorem d_Model_init_28 : decode b_Model_init 28 = .ok (.sipush 160, 3) := by decide +kernel
theorem d_Model_init_31 : decode b_Model_init 31 = .ok (.newarray .int, 2) := by decide +kernel
theorem d_Model_init_33 : decode b_Model_init 33 = .ok (.putfield 20, 3) := by decide +kernel
theorem d_Model_init_36 : decode b_Model_init 36 = .ok (.aload_n 0, 1) := by decide +kernel
theorem d_Model_init_37 : decode b_Model_init 37 = .ok (.iconst 4, 1) := by decide +kernel
theorem d_Model_init_38 : decode b_Model_init 38 = .ok (.newarray .int, 2) := by decide +kernel
theorem d_Model_init_40 : decode b_Model_init 40 = .ok (.putfield 24, 3) := by decide +kernel
theorem d_Model_init_43 : decode b_Model_init 43 = .ok (.aload_n 0, 1) := by decide +kernel
theorem d_Model_init_44 : decode b_Model_init 44 = .ok (.bipush 7, 2) := by decide +kernel
theorem d_Model_init_46 : decode b_Model_init 46 = .ok (.newarray .int, 2) := by decide +kernel
theorem d_Model_init_48 : decode b_Model_init 48 = .ok (.putfield 27, 3) := by decide +kernel
theorem d_Model_init_51 : decode b_Model_init 51 = .ok (.aload_n 0, 1) := by decide +kernel
theorem d_Model_init_52 : decode b_Model_init 52 = .ok (.bipush 40, 2) := by decide +kernel
theorem d_Model_init_54 : decode b_Model_init 54 = .ok (.newarray .int, 2) := by decide +kernel
theorem d_Model_init_56 : decode b_Model_init 56 = .ok (.putfield 30, 3) := by decide +kernel
theorem d_Model_init_59 : decode b_Model_init 59 = .ok (.aload_n 0, 1) := by decide +kernel
theorem d_Model_init_60 : decode b_Model_init 60 = .ok (.bipush 6, 2) := by decide +kernel
theorem d_Model_init_62 : decode b_Model_init 62 = .ok (.newarray .int, 2) := by decide +kernel
theorem d_Model_init_64 : decode b_Model_init 64 = .ok (.putfield 33, 3) := by decide +kernel
theorem d_Model_init_67 : decode b_Model_init 67 = .ok (.return_, 1) := by decide +kernel
theorem d_Model_type_0 : decode b_Model_type 0 = .ok (.iload_n 1, 1) := by decide +kernel
theorem d_Model_type_1 : decode b_Model_type 1 = .ok (.bipush 32, 2) := by decide +kernel
theorem d_Model_type_3 : decode b_Model_type 3 = .ok (.if_icmp .lt 18, 3) := by decide +kernel
theorem d_Model_type_6 : decode b_Model_type 6 = .ok (.iload_n 1, 1) := by decide +kernel
theorem d_Model_type_7 : decode b_Model_type 7 = .ok (.bipush 126, 2) := by decide +kernel
theorem d_Model_type_9 : decode b_Model_type 9 = .ok (.if_icmp .gt 12, 3) := by decide +kernel
theorem d_Model_type_12 : decode b_Model_type 12 = .ok (.aload_n 0, 1) := by decide +kernel
theorem d_Model_type_13 : decode b_Model_type 13 = .ok (.getfield 36, 3) := by decide +kernel
theorem d_Model_type_16 : decode b_Model_type 16 = .ok (.bipush 120, 2) := by decide +kernel
theorem d_Model_type_18 : decode b_Model_type 18 = .ok (.if_icmp .ne 5, 3) := by decide +kernel
theorem d_Model_type_21 : decode b_Model_type 21 = .ok (.iconst 0, 1) := by decide +kernel
theorem d_Model_type_22 : decode b_Model_type 22 = .ok (.ireturn, 1) := by decide +kernel
theorem d_Model_type_23 : decode b_Model_type 23 = .ok (.aload_n 0, 1) := by decide +kernel
theorem d_Model_type_24 : decode b_Model_type 24 = .ok (.getfield 7, 3) := by decide +kernel
theorem d_Model_type_27 : decode b_Model_type 27 = .ok (.aload_n 0, 1) := by decide +kernel
theorem d_Model_type_28 : decode b_Model_type 28 = .ok (.getfield 36, 3) := by decide +kernel
theorem d_Model_type_31 : decode b_Model_type 31 = .ok (.iload_n 1, 1) := by decide +kernel
theorem d_Model_type_32 : decode b_Model_type 32 = .ok (.castore, 1) := by decide +kernel
theorem d_Model_type_33 : decode b_Model_type 33 = .ok (.aload_n 0, 1) := by decide +kernel
theorem d_Model_type_34 : decode b_Model_type 34 = .ok (.aload_n 0, 1) := by decide +kernel
theorem d_Model_type_35 : decode b_Model_type 35 = .ok (.getfield 36, 3) := by decide +kernel
theorem d_Model_type_38 : decode b_Model_type 38 = .ok (.iconst 1, 1) := by decide +kernel
theorem d_Model_type_39 : decode b_Model_type 39 = .ok (.iadd, 1) := by decide +kernel
theorem d_Model_type_40 : decode b_Model_type 40 = .ok (.putfield 36, 3) := by decide +kernel
theorem d_Model_type_43 : decode b_Model_type 43 = .ok (.iconst 1, 1) := by decide +kernel
theorem d_Model_type_44 : decode b_Model_type 44 = .ok (.ireturn, 1) := by decide +kernel
theorem d_Model_wipe_0 : decode b_Model_wipe 0 = .ok (.aload_n 0, 1) := by decide +kernel
theorem d_Model_wipe_1 : decode b_Model_wipe 1 = .ok (.iconst 0, 1) := by decide +kernel
theorem d_Model_wipe_2 : decode b_Model_wipe 2 = .ok (.putfield 36, 3) := by decide +kernel
theorem d_Model_wipe_5 : decode b_Model_wipe 5 = .ok (.return_, 1) := by decide +kernel
theorem d_Model_length_0 : decode b_Model_length 0 = .ok (.aload_n 0, 1) := by decide +kernel
theorem d_Model_length_1 : decode b_Model_length 1 = .ok (.getfield 36, 3) := by decide +kernel
theorem d_Model_length_4 : decode b_Model_length 4 = .ok (.ireturn, 1) := by decide +kernel
theorem d_Model_copy_0 : decode b_Model_copy 0 = .ok (.aload_n 0, 1) := by decide +kernel
theorem d_Model_copy_1 : decode b_Model_copy 1 = .ok (.iconst 0, 1) := by decide +kernel
theorem d_Model_copy_2 : decode b_Model_copy 2 = .ok (.putfield 36, 3) := by decide +kernel
theorem d_Model_copy_5 : decode b_Model_copy 5 = .ok (.iconst 0, 1) := by decide +kernel
theorem d_Model_copy_6 : decode b_Model_copy 6 = .ok (.istore_n 1, 1) := by decide +kernel
theorem d_Model_copy_7 : decode b_Model_copy 7 = .ok (.iload_n 1, 1) := by decide +kernel
theorem d_Model_copy_8 : decode b_Model_copy 8 = .ok (.aload_n 0, 1) := by decide +kernel
theorem d_Model_copy_9 : decode b_Model_copy 9 = .ok (.getfield 39, 3) := by decide +kernel
theorem d_Model_copy_12 : decode b_Model_copy 12 = .ok (.if_icmp .ge 21, 3) := by decide +kernel
theorem d_Model_copy_15 : decode b_Model_copy 15 = .ok (.aload_n 0, 1) := by decide +kernel
theorem d_Model_copy_16 : decode b_Model_copy 16 = .ok (.getfield 7, 3) := by decide +kernel
theorem d_Model_copy_19 : decode b_Model_copy 19 = .ok (.iload_n 1, 1) := by decide +kernel
theorem d_Model_copy_20 : decode b_Model_copy 20 = .ok (.aload_n 0, 1) := by decide +kernel
theorem d_Model_copy_21 : decode b_Model_copy 21 = .ok (.getfield 13, 3) := by decide +kernel
theorem d_Model_copy_24 : decode b_Model_copy 24 = .ok (.iload_n 1, 1) := by decide +kernel
theorem d_Model_copy_25 : decode b_Model_copy 25 = .ok (.caload, 1) := by decide +kernel
theorem d_Model_copy_26 : decode b_Model_copy 26 = .ok (.castore, 1) := by decide +kernel
theorem d_Model_copy_27 : decode b_Model_copy 27 = .ok (.iinc 1 1, 3) := by decide +kernel
theorem d_Model_copy_30 : decode b_Model_copy 30 = .ok (.goto (-23), 3) := by decide +kernel
theorem d_Model_copy_33 : decode b_Model_copy 33 = .ok (.aload_n 0, 1) := by decide +kernel
theorem d_Model_copy_34 : decode b_Model_copy 34 = .ok (.aload_n 0, 1) := by decide +kernel
theorem d_Model_copy_35 : decode b_Model_copy 35 = .ok (.getfield 39, 3) := by decide +kernel
theorem d_Model_copy_38 : decode b_Model_copy 38 = .ok (.putfield 36, 3) := by decide +kernel
theorem d_Model_copy_41 : decode b_Model_copy 41 = .ok (.return_, 1) := by decide +kernel
theorem d_Model_out_0 : decode b_Model_out 0 = .ok (.iload_n 1, 1) := by decide +kernel
theorem d_Model_out_1 : decode b_Model_out 1 = .ok (.ifCond .lt 11, 3) := by decide +kernel
theorem d_Model_out_4 : decode b_Model_out 4 = .ok (.iload_n 1, 1) := by decide +kernel
theorem d_Model_out_5 : decode b_Model_out 5 = .ok (.aload_n 0, 1) := by decide +kernel
theorem d_Model_out_6 : decode b_Model_out 6 = .ok (.getfield 39, 3) := by decide +kernel
theorem d_Model_out_9 : decode b_Model_out 9 = .ok (.if_icmp .lt 7, 3) := by decide +kernel
theorem d_Model_out_12 : decode b_Model_out 12 = .ok (.iconst (-1), 1) := by decide +kernel
theorem d_Model_out_13 : decode b_Model_out 13 = .ok (.goto 9, 3) := by decide +kernel
theorem d_Model_out_16 : decode b_Model_out 16 = .ok (.aload_n 0, 1) := by decide +kernel
theorem d_Model_out_17 : decode b_Model_out 17 = .ok (.getfield 13, 3) := by decide +kernel
theorem d_Model_out_20 : decode b_Model_out 20 = .ok (.iload_n 1, 1) := by decide +kernel
theorem d_Model_out_21 : decode b_Model_out 21 = .ok (.caload, 1) := by decide +kernel
theorem d_Model_out_22 : decode b_Model_out 22 = .ok (.ireturn, 1) := by decide +kernel
theorem d_Model_is_0 : decode b_Model_is 0 = .ok (.iload_n 1, 1) := by decide +kernel
theorem d_Model_is_1 : decode b_Model_is 1 = .ok (.aload_n 0, 1) := by decide +kernel
theorem d_Model_is_2 : decode b_Model_is 2 = .ok (.getfield 36, 3) := by decide +kernel
theorem d_Model_is_5 : decode b_Model_is 5 = .ok (.if_icmp .ge 17, 3) := by decide +kernel
theorem d_Model_is_8 : decode b_Model_is 8 = .ok (.aload_n 0, 1) := by decide +kernel
theorem d_Model_is_9 : decode b_Model_is 9 = .ok (.getfield 7, 3) := by decide +kernel
theorem d_Model_is_12 : decode b_Model_is 12 = .ok (.iload_n 1, 1) := by decide +kernel
theorem d_Model_is_13 : decode b_Model_is 13 = .ok (.caload, 1) := by decide +kernel
theorem d_Model_is_14 : decode b_Model_is 14 = .ok (.iload_n 2, 1) := by decide +kernel
theorem d_Model_is_15 : decode b_Model_is 15 = .ok (.if_icmp .ne 7, 3) := by decide +kernel
theorem d_Model_is_18 : decode b_Model_is 18 = .ok (.iconst 1, 1) := by decide +kernel
theorem d_Model_is_19 : decode b_Model_is 19 = .ok (.goto 4, 3) := by decide +kernel
theorem d_Model_is_22 : decode b_Model_is 22 = .ok (.iconst 0, 1) := by decide +kernel
theorem d_Model_is_23 : decode b_Model_is 23 = .ok (.ireturn, 1) := by decide +kernel
theorem d_Model_special_0 : decode b_Model_special 0 = .ok (.iload_n 0, 1) := by decide +kernel
theorem d_Model_special_1 : decode b_Model_special 1 = .ok (.bipush 35, 2) := by decide +kernel
theorem d_Model_special_3 : decode b_Model_special 3 = .ok (.if_icmp .eq 33, 3) := by decide +kernel
theorem d_Model_special_6 : decode b_Model_special 6 = .ok (.iload_n 0, 1) := by decide +kernel
theorem d_Model_special_7 : decode b_Model_special 7 = .ok (.bipush 48, 2) := by decide +kernel
theorem d_Model_special_9 : decode b_Model_special 9 = .ok (.if_icmp .eq 27, 3) := by decide +kernel
theorem d_Model_special_12 : decode b_Model_special 12 = .ok (.iload_n 0, 1) := by decide +kernel
theorem d_Model_special_13 : decode b_Model_special 13 = .ok (.bipush 44, 2) := by decide +kernel
theorem d_Model_special_15 : decode b_Model_special 15 = .ok (.if_icmp .eq 21, 3) := by decide +kernel
theorem d_Model_special_18 : decode b_Model_special 18 = .ok (.iload_n 0, 1) := by decide +kernel
theorem d_Model_special_19 : decode b_Model_special 19 = .ok (.bipush 46, 2) := by decide +kernel
theorem d_Model_special_21 : decode b_Model_special 21 = .ok (.if_icmp .eq 15, 3) := by decide +kernel
theorem d_Model_special_24 : decode b_Model_special 24 = .ok (.iload_n 0, 1) := by decide +kernel
theorem d_Model_special_25 : decode b_Model_special 25 = .ok (.bipush 59, 2) := by decide +kernel
theorem d_Model_special_27 : decode b_Model_special 27 = .ok (.if_icmp .eq 9, 3) := by decide +kernel
theorem d_Model_special_30 : decode b_Model_special 30 = .ok (.iload_n 0, 1) := by decide +kernel
theorem d_Model_special_31 : decode b_Model_special 31 = .ok (.bipush 69, 2) := by decide +kernel
theorem d_Model_special_33 : decode b_Model_special 33 = .ok (.if_icmp .ne 7, 3) := by decide +kernel
theorem d_Model_special_36 : decode b_Model_special 36 = .ok (.iconst 1, 1) := by decide +kernel
theorem d_Model_special_37 : decode b_Model_special 37 = .ok (.goto 4, 3) := by decide +kernel
theorem d_Model_special_40 : decode b_Model_special 40 = .ok (.iconst 0, 1) := by decide +kernel
theorem d_Model_special_41 : decode b_Model_special 41 = .ok (.ireturn, 1) := by decide +kernel
theorem d_Model_keep_0 : decode b_Model_keep 0 = .ok (.aload_n 0, 1) := by decide +kernel
theorem d_Model_keep_1 : decode b_Model_keep 1 = .ok (.getfield 42, 3) := by decide +kernel
theorem d_Model_keep_4 : decode b_Model_keep 4 = .ok (.ifCond .eq 34, 3) := by decide +kernel
theorem d_Model_keep_7 : decode b_Model_keep 7 = .ok (.aload_n 0, 1) := by decide +kernel
theorem d_Model_keep_8 : decode b_Model_keep 8 = .ok (.getfield 20, 3) := by decide +kernel
theorem d_Model_keep_11 : decode b_Model_keep 11 = .ok (.bipush 40, 2) := by decide +kernel
theorem d_Model_keep_13 : decode b_Model_keep 13 = .ok (.iload_n 1, 1) := by decide +kernel
theorem d_Model_keep_14 : decode b_Model_keep 14 = .ok (.imul, 1) := by decide +kernel
theorem d_Model_keep_15 : decode b_Model_keep 15 = .ok (.aload_n 0, 1) := by decide +kernel
theorem d_Model_keep_16 : decode b_Model_keep 16 = .ok (.getfield 24, 3) := by decide +kernel
theorem d_Model_keep_19 : decode b_Model_keep 19 = .ok (.iload_n 1, 1) := by decide +kernel
theorem d_Model_keep_20 : decode b_Model_keep 20 = .ok (.iaload, 1) := by decide +kernel
theorem d_Model_keep_21 : decode b_Model_keep 21 = .ok (.iadd, 1) := by decide +kernel
theorem d_Model_keep_22 : decode b_Model_keep 22 = .ok (.iload_n 2, 1) := by decide +kernel
theorem d_Model_keep_23 : decode b_Model_keep 23 = .ok (.iastore, 1) := by decide +kernel
theorem d_Model_keep_24 : decode b_Model_keep 24 = .ok (.aload_n 0, 1) := by decide +kernel
theorem d_Model_keep_25 : decode b_Model_keep 25 = .ok (.getfield 24, 3) := by decide +kernel
theorem d_Model_keep_28 : decode b_Model_keep 28 = .ok (.iload_n 1, 1) := by decide +kernel
theorem d_Model_keep_29 : decode b_Model_keep 29 = .ok (.aload_n 0, 1) := by decide +kernel
theorem d_Model_keep_30 : decode b_Model_keep 30 = .ok (.getfield 24, 3) := by decide +kernel
theorem d_Model_keep_33 : decode b_Model_keep 33 = .ok (.iload_n 1, 1) := by decide +kernel
theorem d_Model_keep_34 : decode b_Model_keep 34 = .ok (.iaload, 1) := by decide +kernel
theorem d_Model_keep_35 : decode b_Model_keep 35 = .ok (.iconst 1, 1) := by decide +kernel
theorem d_Model_keep_36 : decode b_Model_keep 36 = .ok (.iadd, 1) := by decide +kernel
theorem d_Model_keep_37 : decode b_Model_keep 37 = .ok (.iastore, 1) := by decide +kernel
theorem d_Model_keep_38 : decode b_Model_keep 38 = .ok (.return_, 1) := by decide +kernel
theorem d_Model_affix_0 : decode b_Model_affix 0 = .ok (.aload_n 0, 1) := by decide +kernel
theorem d_Model_affix_1 : decode b_Model_affix 1 = .ok (.iconst 0, 1) := by decide +kernel
theorem d_Model_affix_2 : decode b_Model_affix 2 = .ok (.putfield 46, 3) := by decide +kernel
theorem d_Model_affix_5 : decode b_Model_affix 5 = .ok (.aload_n 0, 1) := by decide +kernel
theorem d_Model_affix_6 : decode b_Model_affix 6 = .ok (.getfield 49, 3) := by decide +kernel
theorem d_Model_affix_9 : decode b_Model_affix 9 = .ok (.aload_n 0, 1) := by decide +kernel
theorem d_Model_affix_10 : decode b_Model_affix 10 = .ok (.getfield 36, 3) := by decide +kernel
theorem d_Model_affix_13 : decode b_Model_affix 13 = .ok (.if_icmp .ge 7, 3) := by decide +kernel
theorem d_Model_affix_16 : decode b_Model_affix 16 = .ok (.iconst 1, 1) := by decide +kernel
theorem d_Model_affix_17 : decode b_Model_affix 17 = .ok (.goto 4, 3) := by decide +kernel
theorem d_Model_affix_20 : decode b_Model_affix 20 = .ok (.iconst 0, 1) := by decide +kernel
theorem d_Model_affix_21 : decode b_Model_affix 21 = .ok (.istore_n 2, 1) := by decide +kernel
theorem d_Model_affix_22 : decode b_Model_affix 22 = .ok (.iload_n 2, 1) := by decide +kernel
theorem d_Model_affix_23 : decode b_Model_affix 23 = .ok (.ifCond .eq 187, 3) := by decide +kernel
theorem d_Model_affix_26 : decode b_Model_affix 26 = .ok (.aload_n 0, 1) := by decide +kernel
theorem d_Model_affix_27 : decode b_Model_affix 27 = .ok (.aload_n 0, 1) := by decide +kernel
theorem d_Model_affix_28 : decode b_Model_affix 28 = .ok (.getfield 49, 3) := by decide +kernel
theorem d_Model_affix_31 : decode b_Model_affix 31 = .ok (.bipush 39, 2) := by decide +kernel
theorem d_Model_affix_33 : decode b_Model_affix 33 = .ok (.invokevirtual 52, 3) := by decide +kernel
theorem d_Model_affix_36 : decode b_Model_affix 36 = .ok (.ifCond .eq 38, 3) := by decide +kernel
theorem d_Model_affix_39 : decode b_Model_affix 39 = .ok (.aload_n 0, 1) := by decide +kernel
theorem d_Model_affix_40 : decode b_Model_affix 40 = .ok (.aload_n 0, 1) := by decide +kernel
theorem d_Model_affix_41 : decode b_Model_affix 41 = .ok (.getfield 49, 3) := by decide +kernel
theorem d_Model_affix_44 : decode b_Model_affix 44 = .ok (.iconst 1, 1) := by decide +kernel
theorem d_Model_affix_45 : decode b_Model_affix 45 = .ok (.iadd, 1) := by decide +kernel
theorem d_Model_affix_46 : decode b_Model_affix 46 = .ok (.bipush 39, 2) := by decide +kernel
theorem d_Model_affix_48 : decode b_Model_affix 48 = .ok (.invokevirtual 52, 3) := by decide +kernel
theorem d_Model_affix_51 : decode b_Model_affix 51 = .ok (.ifCond .eq 23, 3) := by decide +kernel
theorem d_Model_affix_54 : decode b_Model_affix 54 = .ok (.aload_n 0, 1) := by decide +kernel
theorem d_Model_affix_55 : decode b_Model_affix 55 = .ok (.iload_n 1, 1) := by decide +kernel
theorem d_Model_affix_56 : decode b_Model_affix 56 = .ok (.bipush 39, 2) := by decide +kernel
theorem d_Model_affix_58 : decode b_Model_affix 58 = .ok (.invokevirtual 56, 3) := by decide +kernel
theorem d_Model_affix_61 : decode b_Model_affix 61 = .ok (.aload_n 0, 1) := by decide +kernel
theorem d_Model_affix_62 : decode b_Model_affix 62 = .ok (.aload_n 0, 1) := by decide +kernel
theorem d_Model_affix_63 : decode b_Model_affix 63 = .ok (.getfield 49, 3) := by decide +kernel
theorem d_Model_affix_66 : decode b_Model_affix 66 = .ok (.iconst 2, 1) := by decide +kernel
theorem d_Model_affix_67 : decode b_Model_affix 67 = .ok (.iadd, 1) := by decide +kernel
theorem d_Model_affix_68 : decode b_Model_affix 68 = .ok (.putfield 49, 3) := by decide +kernel
theorem d_Model_affix_71 : decode b_Model_affix 71 = .ok (.goto 119, 3) := by decide +kernel
theorem d_Model_affix_74 : decode b_Model_affix 74 = .ok (.aload_n 0, 1) := by decide +kernel
theorem d_Model_affix_75 : decode b_Model_affix 75 = .ok (.aload_n 0, 1) := by decide +kernel
theorem d_Model_affix_76 : decode b_Model_affix 76 = .ok (.getfield 49, 3) := by decide +kernel
theorem d_Model_affix_79 : decode b_Model_affix 79 = .ok (.bipush 39, 2) := by decide +kernel
theorem d_Model_affix_81 : decode b_Model_affix 81 = .ok (.invokevirtual 52, 3) := by decide +kernel
theorem d_Model_affix_84 : decode b_Model_affix 84 = .ok (.ifCond .eq 32, 3) := by decide +kernel
theorem d_Model_affix_87 : decode b_Model_affix 87 = .ok (.aload_n 0, 1) := by decide +kernel
theorem d_Model_affix_88 : decode b_Model_affix 88 = .ok (.aload_n 0, 1) := by decide +kernel
theorem d_Model_affix_89 : decode b_Model_affix 89 = .ok (.getfield 46, 3) := by decide +kernel
theorem d_Model_affix_92 : decode b_Model_affix 92 = .ok (.ifCond .ne 7, 3) := by decide +kernel
theorem d_Model_affix_95 : decode b_Model_affix 95 = .ok (.iconst 1, 1) := by decide +kernel
theorem d_Model_affix_96 : decode b_Model_affix 96 = .ok (.goto 4, 3) := by decide +kernel
theorem d_Model_affix_99 : decode b_Model_affix 99 = .ok (.iconst 0, 1) := by decide +kernel
theorem d_Model_affix_100 : decode b_Model_affix 100 = .ok (.putfield 46, 3) := by decide +kernel
theorem d_Model_affix_103 : decode b_Model_affix 103 = .ok (.aload_n 0, 1) := by decide +kernel
theorem d_Model_affix_104 : decode b_Model_affix 104 = .ok (.aload_n 0, 1) := by decide +kernel
theorem d_Model_affix_105 : decode b_Model_affix 105 = .ok (.getfield 49, 3) := by decide +kernel
theorem d_Model_affix_108 : decode b_Model_affix 108 = .ok (.iconst 1, 1) := by decide +kernel
theorem d_Model_affix_109 : decode b_Model_affix 109 = .ok (.iadd, 1) := by decide +kernel
theorem d_Model_affix_110 : decode b_Model_affix 110 = .ok (.putfield 49, 3) := by decide +kernel
theorem d_Model_affix_113 : decode b_Model_affix 113 = .ok (.goto 77, 3) := by decide +kernel
theorem d_Model_affix_116 : decode b_Model_affix 116 = .ok (.aload_n 0, 1) := by decide +kernel
theorem d_Model_affix_117 : decode b_Model_affix 117 = .ok (.getfield 46, 3) := by decide +kernel
theorem d_Model_affix_120 : decode b_Model_affix 120 = .ok (.ifCond .ne 19, 3) := by decide +kernel
theorem d_Model_affix_123 : decode b_Model_affix 123 = .ok (.aload_n 0, 1) := by decide +kernel
theorem d_Model_affix_124 : decode b_Model_affix 124 = .ok (.getfield 7, 3) := by decide +kernel
theorem d_Model_affix_127 : decode b_Model_affix 127 = .ok (.aload_n 0, 1) := by decide +kernel
theorem d_Model_affix_128 : decode b_Model_affix 128 = .ok (.getfield 49, 3) := by decide +kernel
theorem d_Model_affix_131 : decode b_Model_affix 131 = .ok (.caload, 1) := by decide +kernel
theorem d_Model_affix_132 : decode b_Model_affix 132 = .ok (.invokestatic 60, 3) := by decide +kernel
theorem d_Model_affix_135 : decode b_Model_affix 135 = .ok (.ifCond .eq 4, 3) := by decide +kernel
theorem d_Model_affix_138 : decode b_Model_affix 138 = .ok (.return_, 1) := by decide +kernel
theorem d_Model_affix_139 : decode b_Model_affix 139 = .ok (.aload_n 0, 1) := by decide +kernel
theorem d_Model_affix_140 : decode b_Model_affix 140 = .ok (.iload_n 1, 1) := by decide +kernel
theorem d_Model_affix_141 : decode b_Model_affix 141 = .ok (.aload_n 0, 1) := by decide +kernel
theorem d_Model_affix_142 : decode b_Model_affix 142 = .ok (.getfield 46, 3) := by decide +kernel
theorem d_Model_affix_145 : decode b_Model_affix 145 = .ok (.ifCond .ne 23, 3) := by decide +kernel
theorem d_Model_affix_148 : decode b_Model_affix 148 = .ok (.aload_n 0, 1) := by decide +kernel
theorem d_Model_affix_149 : decode b_Model_affix 149 = .ok (.getfield 7, 3) := by decide +kernel
theorem d_Model_affix_152 : decode b_Model_affix 152 = .ok (.aload_n 0, 1) := by decide +kernel
theorem d_Model_affix_153 : decode b_Model_affix 153 = .ok (.getfield 49, 3) := by decide +kernel
theorem d_Model_affix_156 : decode b_Model_affix 156 = .ok (.caload, 1) := by decide +kernel
theorem d_Model_affix_157 : decode b_Model_affix 157 = .ok (.bipush 37, 2) := by decide +kernel
theorem d_Model_affix_159 : decode b_Model_affix 159 = .ok (.if_icmp .ne 9, 3) := by decide +kernel
theorem d_Model_affix_162 : decode b_Model_affix 162 = .ok (.sipush 200, 3) := by decide +kernel
theorem d_Model_affix_165 : decode b_Model_affix 165 = .ok (.goto 12, 3) := by decide +kernel
theorem d_Model_affix_168 : decode b_Model_affix 168 = .ok (.aload_n 0, 1) := by decide +kernel
theorem d_Model_affix_169 : decode b_Model_affix 169 = .ok (.getfield 7, 3) := by decide +kernel
theorem d_Model_affix_172 : decode b_Model_affix 172 = .ok (.aload_n 0, 1) := by decide +kernel
theorem d_Model_affix_173 : decode b_Model_affix 173 = .ok (.getfield 49, 3) := by decide +kernel
theorem d_Model_affix_176 : decode b_Model_affix 176 = .ok (.caload, 1) := by decide +kernel
theorem d_Model_affix_177 : decode b_Model_affix 177 = .ok (.invokevirtual 56, 3) := by decide +kernel
theorem d_Model_affix_180 : decode b_Model_affix 180 = .ok (.aload_n 0, 1) := by decide +kernel
theorem d_Model_affix_181 : decode b_Model_affix 181 = .ok (.aload_n 0, 1) := by decide +kernel
theorem d_Model_affix_182 : decode b_Model_affix 182 = .ok (.getfield 49, 3) := by decide +kernel
theorem d_Model_affix_185 : decode b_Model_affix 185 = .ok (.iconst 1, 1) := by decide +kernel
theorem d_Model_affix_186 : decode b_Model_affix 186 = .ok (.iadd, 1) := by decide +kernel
theorem d_Model_affix_187 : decode b_Model_affix 187 = .ok (.putfield 49, 3) := by decide +kernel
theorem d_Model_affix_190 : decode b_Model_affix 190 = .ok (.aload_n 0, 1) := by decide +kernel
theorem d_Model_affix_191 : decode b_Model_affix 191 = .ok (.getfield 49, 3) := by decide +kernel
theorem d_Model_affix_194 : decode b_Model_affix 194 = .ok (.aload_n 0, 1) := by decide +kernel
theorem d_Model_affix_195 : decode b_Model_affix 195 = .ok (.getfield 36, 3) := by decide +kernel
theorem d_Model_affix_198 : decode b_Model_affix 198 = .ok (.if_icmp .ge 7, 3) := by decide +kernel
theorem d_Model_affix_201 : decode b_Model_affix 201 = .ok (.iconst 1, 1) := by decide +kernel
theorem d_Model_affix_202 : decode b_Model_affix 202 = .ok (.goto 4, 3) := by decide +kernel
theorem d_Model_affix_205 : decode b_Model_affix 205 = .ok (.iconst 0, 1) := by decide +kernel
theorem d_Model_affix_206 : decode b_Model_affix 206 = .ok (.istore_n 2, 1) := by decide +kernel
theorem d_Model_affix_207 : decode b_Model_affix 207 = .ok (.goto (-185), 3) := by decide +kernel
theorem d_Model_affix_210 : decode b_Model_affix 210 = .ok (.return_, 1) := by decide +kernel
theorem d_Model_whole_0 : decode b_Model_whole 0 = .ok (.iconst 0, 1) := by decide +kernel
theorem d_Model_whole_1 : decode b_Model_whole 1 = .ok (.istore_n 2, 1) := by decide +kernel
theorem d_Model_whole_2 : decode b_Model_whole 2 = .ok (.iconst 0, 1) := by decide +kernel
theorem d_Model_whole_3 : decode b_Model_whole 3 = .ok (.istore_n 3, 1) := by decide +kernel
theorem d_Model_whole_4 : decode b_Model_whole 4 = .ok (.iconst 0, 1) := by decide +kernel
theorem d_Model_whole_5 : decode b_Model_whole 5 = .ok (.istore 4, 2) := by decide +kernel
theorem d_Model_whole_7 : decode b_Model_whole 7 = .ok (.iconst 0, 1) := by decide +kernel
theorem d_Model_whole_8 : decode b_Model_whole 8 = .ok (.istore 5, 2) := by decide +kernel
theorem d_Model_whole_10 : decode b_Model_whole 10 = .ok (.iconst 1, 1) := by decide +kernel
theorem d_Model_whole_11 : decode b_Model_whole 11 = .ok (.istore 6, 2) := by decide +kernel
theorem d_Model_whole_13 : decode b_Model_whole 13 = .ok (.aload_n 0, 1) := by decide +kernel
theorem d_Model_whole_14 : decode b_Model_whole 14 = .ok (.aload_n 0, 1) := by decide +kernel
theorem d_Model_whole_15 : decode b_Model_whole 15 = .ok (.getfield 49, 3) := by decide +kernel
theorem d_Model_whole_18 : decode b_Model_whole 18 = .ok (.bipush 35, 2) := by decide +kernel
theorem d_Model_whole_20 : decode b_Model_whole 20 = .ok (.invokevirtual 52, 3) := by decide +kernel
theorem d_Model_whole_23 : decode b_Model_whole 23 = .ok (.ifCond .eq 13, 3) := by decide +kernel
theorem d_Model_whole_26 : decode b_Model_whole 26 = .ok (.iload_n 3, 1) := by decide +kernel
theorem d_Model_whole_27 : decode b_Model_whole 27 = .ok (.ifCond .ne 9, 3) := by decide +kernel
theorem d_Model_whole_30 : decode b_Model_whole 30 = .ok (.iload_n 2, 1) := by decide +kernel
theorem d_Model_whole_31 : decode b_Model_whole 31 = .ok (.bipush 12, 2) := by decide +kernel
theorem d_Model_whole_33 : decode b_Model_whole 33 = .ok (.if_icmp .lt 46, 3) := by decide +kernel
theorem d_Model_whole_36 : decode b_Model_whole 36 = .ok (.aload_n 0, 1) := by decide +kernel
theorem d_Model_whole_37 : decode b_Model_whole 37 = .ok (.aload_n 0, 1) := by decide +kernel
theorem d_Model_whole_38 : decode b_Model_whole 38 = .ok (.getfield 49, 3) := by decide +kernel
theorem d_Model_whole_41 : decode b_Model_whole 41 = .ok (.bipush 48, 2) := by decide +kernel
theorem d_Model_whole_43 : decode b_Model_whole 43 = .ok (.invokevirtual 52, 3) := by decide +kernel
theorem d_Model_whole_46 : decode b_Model_whole 46 = .ok (.ifCond .eq 9, 3) := by decide +kernel
theorem d_Model_whole_49 : decode b_Model_whole 49 = .ok (.iload_n 2, 1) := by decide +kernel
theorem d_Model_whole_50 : decode b_Model_whole 50 = .ok (.bipush 12, 2) := by decide +kernel
theorem d_Model_whole_52 : decode b_Model_whole 52 = .ok (.if_icmp .lt 27, 3) := by decide +kernel
theorem d_Model_whole_55 : decode b_Model_whole 55 = .ok (.aload_n 0, 1) := by decide +kernel
theorem d_Model_whole_56 : decode b_Model_whole 56 = .ok (.aload_n 0, 1) := by decide +kernel
theorem d_Model_whole_57 : decode b_Model_whole 57 = .ok (.getfield 49, 3) := by decide +kernel
theorem d_Model_whole_60 : decode b_Model_whole 60 = .ok (.bipush 44, 2) := by decide +kernel
theorem d_Model_whole_62 : decode b_Model_whole 62 = .ok (.invokevirtual 52, 3) := by decide +kernel
theorem d_Model_whole_65 : decode b_Model_whole 65 = .ok (.ifCond .eq 88, 3) := by decide +kernel
theorem d_Model_whole_68 : decode b_Model_whole 68 = .ok (.iload 6, 2) := by decide +kernel
theorem d_Model_whole_70 : decode b_Model_whole 70 = .ok (.ifCond .ne 83, 3) := by decide +kernel
theorem d_Model_whole_73 : decode b_Model_whole 73 = .ok (.iload_n 2, 1) := by decide +kernel
theorem d_Model_whole_74 : decode b_Model_whole 74 = .ok (.bipush 12, 2) := by decide +kernel
theorem d_Model_whole_76 : decode b_Model_whole 76 = .ok (.if_icmp .ge 77, 3) := by decide +kernel
theorem d_Model_whole_79 : decode b_Model_whole 79 = .ok (.aload_n 0, 1) := by decide +kernel
theorem d_Model_whole_80 : decode b_Model_whole 80 = .ok (.getfield 7, 3) := by decide +kernel
theorem d_Model_whole_83 : decode b_Model_whole 83 = .ok (.aload_n 0, 1) := by decide +kernel
theorem d_Model_whole_84 : decode b_Model_whole 84 = .ok (.getfield 49, 3) := by decide +kernel
theorem d_Model_whole_87 : decode b_Model_whole 87 = .ok (.caload, 1) := by decide +kernel
theorem d_Model_whole_88 : decode b_Model_whole 88 = .ok (.bipush 44, 2) := by decide +kernel
theorem d_Model_whole_90 : decode b_Model_whole 90 = .ok (.if_icmp .ne 15, 3) := by decide +kernel
theorem d_Model_whole_93 : decode b_Model_whole 93 = .ok (.iconst 1, 1) := by decide +kernel
theorem d_Model_whole_94 : decode b_Model_whole 94 = .ok (.istore 5, 2) := by decide +kernel
theorem d_Model_whole_96 : decode b_Model_whole 96 = .ok (.iconst 1, 1) := by decide +kernel
theorem d_Model_whole_97 : decode b_Model_whole 97 = .ok (.istore 6, 2) := by decide +kernel
theorem d_Model_whole_99 : decode b_Model_whole 99 = .ok (.iconst 0, 1) := by decide +kernel
theorem d_Model_whole_100 : decode b_Model_whole 100 = .ok (.istore 4, 2) := by decide +kernel
theorem d_Model_whole_102 : decode b_Model_whole 102 = .ok (.goto 38, 3) := by decide +kernel
theorem d_Model_whole_105 : decode b_Model_whole 105 = .ok (.aload_n 0, 1) := by decide +kernel
theorem d_Model_whole_106 : decode b_Model_whole 106 = .ok (.getfield 7, 3) := by decide +kernel
theorem d_Model_whole_109 : decode b_Model_whole 109 = .ok (.aload_n 0, 1) := by decide +kernel
theorem d_Model_whole_110 : decode b_Model_whole 110 = .ok (.getfield 49, 3) := by decide +kernel
theorem d_Model_whole_113 : decode b_Model_whole 113 = .ok (.caload, 1) := by decide +kernel
theorem d_Model_whole_114 : decode b_Model_whole 114 = .ok (.bipush 48, 2) := by decide +kernel
theorem d_Model_whole_116 : decode b_Model_whole 116 = .ok (.if_icmp .ne 9, 3) := by decide +kernel
theorem d_Model_whole_119 : decode b_Model_whole 119 = .ok (.iload_n 3, 1) := by decide +kernel
theorem d_Model_whole_120 : decode b_Model_whole 120 = .ok (.iconst 1, 1) := by decide +kernel
theorem d_Model_whole_121 : decode b_Model_whole 121 = .ok (.iadd, 1) := by decide +kernel
theorem d_Model_whole_122 : decode b_Model_whole 122 = .ok (.goto 4, 3) := by decide +kernel
theorem d_Model_whole_125 : decode b_Model_whole 125 = .ok (.iload_n 3, 1) := by decide +kernel
theorem d_Model_whole_126 : decode b_Model_whole 126 = .ok (.istore_n 3, 1) := by decide +kernel
theorem d_Model_whole_127 : decode b_Model_whole 127 = .ok (.iload_n 2, 1) := by decide +kernel
theorem d_Model_whole_128 : decode b_Model_whole 128 = .ok (.iconst 1, 1) := by decide +kernel
theorem d_Model_whole_129 : decode b_Model_whole 129 = .ok (.iadd, 1) := by decide +kernel
theorem d_Model_whole_130 : decode b_Model_whole 130 = .ok (.istore_n 2, 1) := by decide +kernel
theorem d_Model_whole_131 : decode b_Model_whole 131 = .ok (.iload 4, 2) := by decide +kernel
theorem d_Model_whole_133 : decode b_Model_whole 133 = .ok (.iconst 1, 1) := by decide +kernel
theorem d_Model_whole_134 : decode b_Model_whole 134 = .ok (.iadd, 1) := by decide +kernel
theorem d_Model_whole_135 : decode b_Model_whole 135 = .ok (.istore 4, 2) := by decide +kernel
theorem d_Model_whole_137 : decode b_Model_whole 137 = .ok (.iconst 0, 1) := by decide +kernel
theorem d_Model_whole_138 : decode b_Model_whole 138 = .ok (.istore 6, 2) := by decide +kernel
theorem d_Model_whole_140 : decode b_Model_whole 140 = .ok (.aload_n 0, 1) := by decide +kernel
theorem d_Model_whole_141 : decode b_Model_whole 141 = .ok (.aload_n 0, 1) := by decide +kernel
theorem d_Model_whole_142 : decode b_Model_whole 142 = .ok (.getfield 49, 3) := by decide +kernel
theorem d_Model_whole_145 : decode b_Model_whole 145 = .ok (.iconst 1, 1) := by decide +kernel
theorem d_Model_whole_146 : decode b_Model_whole 146 = .ok (.iadd, 1) := by decide +kernel
theorem d_Model_whole_147 : decode b_Model_whole 147 = .ok (.putfield 49, 3) := by decide +kernel
theorem d_Model_whole_150 : decode b_Model_whole 150 = .ok (.goto (-137), 3) := by decide +kernel
theorem d_Model_whole_153 : decode b_Model_whole 153 = .ok (.iload 6, 2) := by decide +kernel
theorem d_Model_whole_155 : decode b_Model_whole 155 = .ok (.ifCond .eq 11, 3) := by decide +kernel
theorem d_Model_whole_158 : decode b_Model_whole 158 = .ok (.aload_n 0, 1) := by decide +kernel
theorem d_Model_whole_159 : decode b_Model_whole 159 = .ok (.aload_n 0, 1) := by decide +kernel
theorem d_Model_whole_160 : decode b_Model_whole 160 = .ok (.getfield 49, 3) := by decide +kernel
theorem d_Model_whole_163 : decode b_Model_whole 163 = .ok (.putfield 64, 3) := by decide +kernel
theorem d_Model_whole_166 : decode b_Model_whole 166 = .ok (.aload_n 0, 1) := by decide +kernel
theorem d_Model_whole_167 : decode b_Model_whole 167 = .ok (.getfield 42, 3) := by decide +kernel
theorem d_Model_whole_170 : decode b_Model_whole 170 = .ok (.ifCond .eq 31, 3) := by decide +kernel
theorem d_Model_whole_173 : decode b_Model_whole 173 = .ok (.iload_n 1, 1) := by decide +kernel
theorem d_Model_whole_174 : decode b_Model_whole 174 = .ok (.ifCond .eq 27, 3) := by decide +kernel
theorem d_Model_whole_177 : decode b_Model_whole 177 = .ok (.aload_n 0, 1) := by decide +kernel
theorem d_Model_whole_178 : decode b_Model_whole 178 = .ok (.getfield 27, 3) := by decide +kernel
theorem d_Model_whole_181 : decode b_Model_whole 181 = .ok (.iconst 0, 1) := by decide +kernel
theorem d_Model_whole_182 : decode b_Model_whole 182 = .ok (.iload_n 3, 1) := by decide +kernel
theorem d_Model_whole_183 : decode b_Model_whole 183 = .ok (.iastore, 1) := by decide +kernel
theorem d_Model_whole_184 : decode b_Model_whole 184 = .ok (.aload_n 0, 1) := by decide +kernel
theorem d_Model_whole_185 : decode b_Model_whole 185 = .ok (.getfield 27, 3) := by decide +kernel
theorem d_Model_whole_188 : decode b_Model_whole 188 = .ok (.iconst 3, 1) := by decide +kernel
theorem d_Model_whole_189 : decode b_Model_whole 189 = .ok (.iload 5, 2) := by decide +kernel
theorem d_Model_whole_191 : decode b_Model_whole 191 = .ok (.ifCond .eq 8, 3) := by decide +kernel
theorem d_Model_whole_194 : decode b_Model_whole 194 = .ok (.iload 4, 2) := by decide +kernel
theorem d_Model_whole_196 : decode b_Model_whole 196 = .ok (.goto 4, 3) := by decide +kernel
theorem d_Model_whole_199 : decode b_Model_whole 199 = .ok (.iconst 0, 1) := by decide +kernel
theorem d_Model_whole_200 : decode b_Model_whole 200 = .ok (.iastore, 1) := by decide +kernel
theorem d_Model_whole_201 : decode b_Model_whole 201 = .ok (.iload 5, 2) := by decide +kernel
theorem d_Model_whole_203 : decode b_Model_whole 203 = .ok (.ifCond .ne 8, 3) := by decide +kernel
theorem d_Model_whole_206 : decode b_Model_whole 206 = .ok (.iload_n 2, 1) := by decide +kernel
theorem d_Model_whole_207 : decode b_Model_whole 207 = .ok (.iload_n 3, 1) := by decide +kernel
theorem d_Model_whole_208 : decode b_Model_whole 208 = .ok (.if_icmp .le 7, 3) := by decide +kernel
theorem d_Model_whole_211 : decode b_Model_whole 211 = .ok (.iconst 0, 1) := by decide +kernel
theorem d_Model_whole_212 : decode b_Model_whole 212 = .ok (.goto 4, 3) := by decide +kernel
theorem d_Model_whole_215 : decode b_Model_whole 215 = .ok (.iload_n 2, 1) := by decide +kernel
theorem d_Model_whole_216 : decode b_Model_whole 216 = .ok (.ireturn, 1) := by decide +kernel
theorem d_Model_fraction_0 : decode b_Model_fraction 0 = .ok (.iconst 0, 1) := by decide +kernel
theorem d_Model_fraction_1 : decode b_Model_fraction 1 = .ok (.istore_n 2, 1) := by decide +kernel
theorem d_Model_fraction_2 : decode b_Model_fraction 2 = .ok (.iconst 0, 1) := by decide +kernel
theorem d_Model_fraction_3 : decode b_Model_fraction 3 = .ok (.istore_n 3, 1) := by decide +kernel
theorem d_Model_fraction_4 : decode b_Model_fraction 4 = .ok (.aload_n 0, 1) := by decide +kernel
theorem d_Model_fraction_5 : decode b_Model_fraction 5 = .ok (.aload_n 0, 1) := by decide +kernel
theorem d_Model_fraction_6 : decode b_Model_fraction 6 = .ok (.getfield 49, 3) := by decide +kernel
theorem d_Model_fraction_9 : decode b_Model_fraction 9 = .ok (.bipush 48, 2) := by decide +kernel
theorem d_Model_fraction_11 : decode b_Model_fraction 11 = .ok (.invokevirtual 52, 3) := by decide +kernel
theorem d_Model_fraction_14 : decode b_Model_fraction 14 = .ok (.ifCond .eq 13, 3) := by decide +kernel
theorem d_Model_fraction_17 : decode b_Model_fraction 17 = .ok (.iload_n 3, 1) := by decide +kernel
theorem d_Model_fraction_18 : decode b_Model_fraction 18 = .ok (.ifCond .ne 9, 3) := by decide +kernel
theorem d_Model_fraction_21 : decode b_Model_fraction 21 = .ok (.iload_n 2, 1) := by decide +kernel
theorem d_Model_fraction_22 : decode b_Model_fraction 22 = .ok (.bipush 9, 2) := by decide +kernel
theorem d_Model_fraction_24 : decode b_Model_fraction 24 = .ok (.if_icmp .lt 24, 3) := by decide +kernel
theorem d_Model_fraction_27 : decode b_Model_fraction 27 = .ok (.aload_n 0, 1) := by decide +kernel
theorem d_Model_fraction_28 : decode b_Model_fraction 28 = .ok (.aload_n 0, 1) := by decide +kernel
theorem d_Model_fraction_29 : decode b_Model_fraction 29 = .ok (.getfield 49, 3) := by decide +kernel
theorem d_Model_fraction_32 : decode b_Model_fraction 32 = .ok (.bipush 35, 2) := by decide +kernel
theorem d_Model_fraction_34 : decode b_Model_fraction 34 = .ok (.invokevirtual 52, 3) := by decide +kernel
theorem d_Model_fraction_37 : decode b_Model_fraction 37 = .ok (.ifCond .eq 68, 3) := by decide +kernel
theorem d_Model_fraction_40 : decode b_Model_fraction 40 = .ok (.iload_n 2, 1) := by decide +kernel
theorem d_Model_fraction_41 : decode b_Model_fraction 41 = .ok (.iload_n 3, 1) := by decide +kernel
theorem d_Model_fraction_42 : decode b_Model_fraction 42 = .ok (.iadd, 1) := by decide +kernel
theorem d_Model_fraction_43 : decode b_Model_fraction 43 = .ok (.bipush 9, 2) := by decide +kernel
theorem d_Model_fraction_45 : decode b_Model_fraction 45 = .ok (.if_icmp .ge 60, 3) := by decide +kernel
theorem d_Model_fraction_48 : decode b_Model_fraction 48 = .ok (.aload_n 0, 1) := by decide +kernel
theorem d_Model_fraction_49 : decode b_Model_fraction 49 = .ok (.getfield 7, 3) := by decide +kernel
theorem d_Model_fraction_52 : decode b_Model_fraction 52 = .ok (.aload_n 0, 1) := by decide +kernel
theorem d_Model_fraction_53 : decode b_Model_fraction 53 = .ok (.getfield 49, 3) := by decide +kernel
theorem d_Model_fraction_56 : decode b_Model_fraction 56 = .ok (.caload, 1) := by decide +kernel
theorem d_Model_fraction_57 : decode b_Model_fraction 57 = .ok (.bipush 48, 2) := by decide +kernel
theorem d_Model_fraction_59 : decode b_Model_fraction 59 = .ok (.if_icmp .ne 9, 3) := by decide +kernel
theorem d_Model_fraction_62 : decode b_Model_fraction 62 = .ok (.iload_n 2, 1) := by decide +kernel
theorem d_Model_fraction_63 : decode b_Model_fraction 63 = .ok (.iconst 1, 1) := by decide +kernel
theorem d_Model_fraction_64 : decode b_Model_fraction 64 = .ok (.iadd, 1) := by decide +kernel
theorem d_Model_fraction_65 : decode b_Model_fraction 65 = .ok (.goto 4, 3) := by decide +kernel
theorem d_Model_fraction_68 : decode b_Model_fraction 68 = .ok (.iload_n 2, 1) := by decide +kernel
theorem d_Model_fraction_69 : decode b_Model_fraction 69 = .ok (.istore_n 2, 1) := by decide +kernel
theorem d_Model_fraction_70 : decode b_Model_fraction 70 = .ok (.aload_n 0, 1) := by decide +kernel
theorem d_Model_fraction_71 : decode b_Model_fraction 71 = .ok (.getfield 7, 3) := by decide +kernel
theorem d_Model_fraction_74 : decode b_Model_fraction 74 = .ok (.aload_n 0, 1) := by decide +kernel
theorem d_Model_fraction_75 : decode b_Model_fraction 75 = .ok (.getfield 49, 3) := by decide +kernel
theorem d_Model_fraction_78 : decode b_Model_fraction 78 = .ok (.caload, 1) := by decide +kernel
theorem d_Model_fraction_79 : decode b_Model_fraction 79 = .ok (.bipush 35, 2) := by decide +kernel
theorem d_Model_fraction_81 : decode b_Model_fraction 81 = .ok (.if_icmp .ne 9, 3) := by decide +kernel
theorem d_Model_fraction_84 : decode b_Model_fraction 84 = .ok (.iload_n 3, 1) := by decide +kernel
theorem d_Model_fraction_85 : decode b_Model_fraction 85 = .ok (.iconst 1, 1) := by decide +kernel
theorem d_Model_fraction_86 : decode b_Model_fraction 86 = .ok (.iadd, 1) := by decide +kernel
theorem d_Model_fraction_87 : decode b_Model_fraction 87 = .ok (.goto 4, 3) := by decide +kernel
theorem d_Model_fraction_90 : decode b_Model_fraction 90 = .ok (.iload_n 3, 1) := by decide +kernel
theorem d_Model_fraction_91 : decode b_Model_fraction 91 = .ok (.istore_n 3, 1) := by decide +kernel
theorem d_Model_fraction_92 : decode b_Model_fraction 92 = .ok (.aload_n 0, 1) := by decide +kernel
theorem d_Model_fraction_93 : decode b_Model_fraction 93 = .ok (.aload_n 0, 1) := by decide +kernel
theorem d_Model_fraction_94 : decode b_Model_fraction 94 = .ok (.getfield 49, 3) := by decide +kernel
theorem d_Model_fraction_97 : decode b_Model_fraction 97 = .ok (.iconst 1, 1) := by decide +kernel
theorem d_Model_fraction_98 : decode b_Model_fraction 98 = .ok (.iadd, 1) := by decide +kernel
theorem d_Model_fraction_99 : decode b_Model_fraction 99 = .ok (.putfield 49, 3) := by decide +kernel
theorem d_Model_fraction_102 : decode b_Model_fraction 102 = .ok (.goto (-98), 3) := by decide +kernel
theorem d_Model_fraction_105 : decode b_Model_fraction 105 = .ok (.aload_n 0, 1) := by decide +kernel
theorem d_Model_fraction_106 : decode b_Model_fraction 106 = .ok (.getfield 42, 3) := by decide +kernel
theorem d_Model_fraction_109 : decode b_Model_fraction 109 = .ok (.ifCond .eq 23, 3) := by decide +kernel
theorem d_Model_fraction_112 : decode b_Model_fraction 112 = .ok (.iload_n 1, 1) := by decide +kernel
theorem d_Model_fraction_113 : decode b_Model_fraction 113 = .ok (.ifCond .eq 19, 3) := by decide +kernel
theorem d_Model_fraction_116 : decode b_Model_fraction 116 = .ok (.aload_n 0, 1) := by decide +kernel
theorem d_Model_fraction_117 : decode b_Model_fraction 117 = .ok (.getfield 27, 3) := by decide +kernel
theorem d_Model_fraction_120 : decode b_Model_fraction 120 = .ok (.iconst 1, 1) := by decide +kernel
theorem d_Model_fraction_121 : decode b_Model_fraction 121 = .ok (.iload_n 2, 1) := by decide +kernel
theorem d_Model_fraction_122 : decode b_Model_fraction 122 = .ok (.iastore, 1) := by decide +kernel
theorem d_Model_fraction_123 : decode b_Model_fraction 123 = .ok (.aload_n 0, 1) := by decide +kernel
theorem d_Model_fraction_124 : decode b_Model_fraction 124 = .ok (.getfield 27, 3) := by decide +kernel
theorem d_Model_fraction_127 : decode b_Model_fraction 127 = .ok (.iconst 2, 1) := by decide +kernel
theorem d_Model_fraction_128 : decode b_Model_fraction 128 = .ok (.iload_n 2, 1) := by decide +kernel
theorem d_Model_fraction_129 : decode b_Model_fraction 129 = .ok (.iload_n 3, 1) := by decide +kernel
theorem d_Model_fraction_130 : decode b_Model_fraction 130 = .ok (.iadd, 1) := by decide +kernel
theorem d_Model_fraction_131 : decode b_Model_fraction 131 = .ok (.iastore, 1) := by decide +kernel
theorem d_Model_fraction_132 : decode b_Model_fraction 132 = .ok (.return_, 1) := by decide +kernel
theorem d_Model_exponent_0 : decode b_Model_exponent 0 = .ok (.iconst 0, 1) := by decide +kernel
theorem d_Model_exponent_1 : decode b_Model_exponent 1 = .ok (.istore_n 2, 1) := by decide +kernel
theorem d_Model_exponent_2 : decode b_Model_exponent 2 = .ok (.aload_n 0, 1) := by decide +kernel
theorem d_Model_exponent_3 : decode b_Model_exponent 3 = .ok (.aload_n 0, 1) := by decide +kernel
theorem d_Model_exponent_4 : decode b_Model_exponent 4 = .ok (.getfield 49, 3) := by decide +kernel
theorem d_Model_exponent_7 : decode b_Model_exponent 7 = .ok (.bipush 48, 2) := by decide +kernel
theorem d_Model_exponent_9 : decode b_Model_exponent 9 = .ok (.invokevirtual 52, 3) := by decide +kernel
theorem d_Model_exponent_12 : decode b_Model_exponent 12 = .ok (.ifCond .eq 25, 3) := by decide +kernel
theorem d_Model_exponent_15 : decode b_Model_exponent 15 = .ok (.iload_n 2, 1) := by decide +kernel
theorem d_Model_exponent_16 : decode b_Model_exponent 16 = .ok (.iconst 3, 1) := by decide +kernel
theorem d_Model_exponent_17 : decode b_Model_exponent 17 = .ok (.if_icmp .ge 20, 3) := by decide +kernel
theorem d_Model_exponent_20 : decode b_Model_exponent 20 = .ok (.iload_n 2, 1) := by decide +kernel
theorem d_Model_exponent_21 : decode b_Model_exponent 21 = .ok (.iconst 1, 1) := by decide +kernel
theorem d_Model_exponent_22 : decode b_Model_exponent 22 = .ok (.iadd, 1) := by decide +kernel
theorem d_Model_exponent_23 : decode b_Model_exponent 23 = .ok (.istore_n 2, 1) := by decide +kernel
theorem d_Model_exponent_24 : decode b_Model_exponent 24 = .ok (.aload_n 0, 1) := by decide +kernel
theorem d_Model_exponent_25 : decode b_Model_exponent 25 = .ok (.aload_n 0, 1) := by decide +kernel
theorem d_Model_exponent_26 : decode b_Model_exponent 26 = .ok (.getfield 49, 3) := by decide +kernel
theorem d_Model_exponent_29 : decode b_Model_exponent 29 = .ok (.iconst 1, 1) := by decide +kernel
theorem d_Model_exponent_30 : decode b_Model_exponent 30 = .ok (.iadd, 1) := by decide +kernel
theorem d_Model_exponent_31 : decode b_Model_exponent 31 = .ok (.putfield 49, 3) := by decide +kernel
theorem d_Model_exponent_34 : decode b_Model_exponent 34 = .ok (.goto (-32), 3) := by decide +kernel
theorem d_Model_exponent_37 : decode b_Model_exponent 37 = .ok (.iload_n 2, 1) := by decide +kernel
theorem d_Model_exponent_38 : decode b_Model_exponent 38 = .ok (.ifCond .ne 11, 3) := by decide +kernel
theorem d_Model_exponent_41 : decode b_Model_exponent 41 = .ok (.aload_n 0, 1) := by decide +kernel
theorem d_Model_exponent_42 : decode b_Model_exponent 42 = .ok (.aload_n 0, 1) := by decide +kernel
theorem d_Model_exponent_43 : decode b_Model_exponent 43 = .ok (.getfield 49, 3) := by decide +kernel
theorem d_Model_exponent_46 : decode b_Model_exponent 46 = .ok (.putfield 64, 3) := by decide +kernel
theorem d_Model_exponent_49 : decode b_Model_exponent 49 = .ok (.aload_n 0, 1) := by decide +kernel
theorem d_Model_exponent_50 : decode b_Model_exponent 50 = .ok (.getfield 42, 3) := by decide +kernel
theorem d_Model_exponent_53 : decode b_Model_exponent 53 = .ok (.ifCond .eq 14, 3) := by decide +kernel
theorem d_Model_exponent_56 : decode b_Model_exponent 56 = .ok (.iload_n 1, 1) := by decide +kernel
theorem d_Model_exponent_57 : decode b_Model_exponent 57 = .ok (.ifCond .eq 10, 3) := by decide +kernel
theorem d_Model_exponent_60 : decode b_Model_exponent 60 = .ok (.aload_n 0, 1) := by decide +kernel
theorem d_Model_exponent_61 : decode b_Model_exponent 61 = .ok (.getfield 27, 3) := by decide +kernel
theorem d_Model_exponent_64 : decode b_Model_exponent 64 = .ok (.iconst 4, 1) := by decide +kernel
theorem d_Model_exponent_65 : decode b_Model_exponent 65 = .ok (.iload_n 2, 1) := by decide +kernel
theorem d_Model_exponent_66 : decode b_Model_exponent 66 = .ok (.iastore, 1) := by decide +kernel
theorem d_Model_exponent_67 : decode b_Model_exponent 67 = .ok (.return_, 1) := by decide +kernel
theorem d_Model_number_0 : decode b_Model_number 0 = .ok (.aload_n 0, 1) := by decide +kernel
theorem d_Model_number_1 : decode b_Model_number 1 = .ok (.iload_n 1, 1) := by decide +kernel
theorem d_Model_number_2 : decode b_Model_number 2 = .ok (.invokevirtual 67, 3) := by decide +kernel
theorem d_Model_number_5 : decode b_Model_number 5 = .ok (.istore_n 2, 1) := by decide +kernel
theorem d_Model_number_6 : decode b_Model_number 6 = .ok (.aload_n 0, 1) := by decide +kernel
theorem d_Model_number_7 : decode b_Model_number 7 = .ok (.getfield 64, 3) := by decide +kernel
theorem d_Model_number_10 : decode b_Model_number 10 = .ok (.ifCond .ge 31, 3) := by decide +kernel
theorem d_Model_number_13 : decode b_Model_number 13 = .ok (.aload_n 0, 1) := by decide +kernel
theorem d_Model_number_14 : decode b_Model_number 14 = .ok (.aload_n 0, 1) := by decide +kernel
theorem d_Model_number_15 : decode b_Model_number 15 = .ok (.getfield 49, 3) := by decide +kernel
theorem d_Model_number_18 : decode b_Model_number 18 = .ok (.bipush 46, 2) := by decide +kernel
theorem d_Model_number_20 : decode b_Model_number 20 = .ok (.invokevirtual 52, 3) := by decide +kernel
theorem d_Model_number_23 : decode b_Model_number 23 = .ok (.ifCond .eq 18, 3) := by decide +kernel
theorem d_Model_number_26 : decode b_Model_number 26 = .ok (.aload_n 0, 1) := by decide +kernel
theorem d_Model_number_27 : decode b_Model_number 27 = .ok (.aload_n 0, 1) := by decide +kernel
theorem d_Model_number_28 : decode b_Model_number 28 = .ok (.getfield 49, 3) := by decide +kernel
theorem d_Model_number_31 : decode b_Model_number 31 = .ok (.iconst 1, 1) := by decide +kernel
theorem d_Model_number_32 : decode b_Model_number 32 = .ok (.iadd, 1) := by decide +kernel
theorem d_Model_number_33 : decode b_Model_number 33 = .ok (.putfield 49, 3) := by decide +kernel
theorem d_Model_number_36 : decode b_Model_number 36 = .ok (.aload_n 0, 1) := by decide +kernel
theorem d_Model_number_37 : decode b_Model_number 37 = .ok (.iload_n 1, 1) := by decide +kernel
theorem d_Model_number_38 : decode b_Model_number 38 = .ok (.invokevirtual 71, 3) := by decide +kernel
theorem d_Model_number_41 : decode b_Model_number 41 = .ok (.aload_n 0, 1) := by decide +kernel
theorem d_Model_number_42 : decode b_Model_number 42 = .ok (.getfield 64, 3) := by decide +kernel
theorem d_Model_number_45 : decode b_Model_number 45 = .ok (.ifCond .ge 35, 3) := by decide +kernel
theorem d_Model_number_48 : decode b_Model_number 48 = .ok (.aload_n 0, 1) := by decide +kernel
theorem d_Model_number_49 : decode b_Model_number 49 = .ok (.aload_n 0, 1) := by decide +kernel
theorem d_Model_number_50 : decode b_Model_number 50 = .ok (.getfield 49, 3) := by decide +kernel
theorem d_Model_number_53 : decode b_Model_number 53 = .ok (.bipush 69, 2) := by decide +kernel
theorem d_Model_number_55 : decode b_Model_number 55 = .ok (.invokevirtual 52, 3) := by decide +kernel
theorem d_Model_number_58 : decode b_Model_number 58 = .ok (.ifCond .eq 22, 3) := by decide +kernel
theorem d_Model_number_61 : decode b_Model_number 61 = .ok (.iload_n 2, 1) := by decide +kernel
theorem d_Model_number_62 : decode b_Model_number 62 = .ok (.ifCond .le 18, 3) := by decide +kernel
theorem d_Model_number_65 : decode b_Model_number 65 = .ok (.aload_n 0, 1) := by decide +kernel
theorem d_Model_number_66 : decode b_Model_number 66 = .ok (.aload_n 0, 1) := by decide +kernel
theorem d_Model_number_67 : decode b_Model_number 67 = .ok (.getfield 49, 3) := by decide +kernel
theorem d_Model_number_70 : decode b_Model_number 70 = .ok (.iconst 1, 1) := by decide +kernel
theorem d_Model_number_71 : decode b_Model_number 71 = .ok (.iadd, 1) := by decide +kernel
theorem d_Model_number_72 : decode b_Model_number 72 = .ok (.putfield 49, 3) := by decide +kernel
theorem d_Model_number_75 : decode b_Model_number 75 = .ok (.aload_n 0, 1) := by decide +kernel
theorem d_Model_number_76 : decode b_Model_number 76 = .ok (.iload_n 1, 1) := by decide +kernel
theorem d_Model_number_77 : decode b_Model_number 77 = .ok (.invokevirtual 75, 3) := by decide +kernel
theorem d_Model_number_80 : decode b_Model_number 80 = .ok (.return_, 1) := by decide +kernel
theorem d_Model_part_0 : decode b_Model_part 0 = .ok (.aload_n 0, 1) := by decide +kernel
theorem d_Model_part_1 : decode b_Model_part 1 = .ok (.iconst 2, 1) := by decide +kernel
theorem d_Model_part_2 : decode b_Model_part 2 = .ok (.iload_n 1, 1) := by decide +kernel
theorem d_Model_part_3 : decode b_Model_part 3 = .ok (.imul, 1) := by decide +kernel
theorem d_Model_part_4 : decode b_Model_part 4 = .ok (.invokevirtual 78, 3) := by decide +kernel
theorem d_Model_part_7 : decode b_Model_part 7 = .ok (.aload_n 0, 1) := by decide +kernel
theorem d_Model_part_8 : decode b_Model_part 8 = .ok (.iload_n 1, 1) := by decide +kernel
theorem d_Model_part_9 : decode b_Model_part 9 = .ok (.ifCond .ne 7, 3) := by decide +kernel
theorem d_Model_part_12 : decode b_Model_part 12 = .ok (.iconst 1, 1) := by decide +kernel
theorem d_Model_part_13 : decode b_Model_part 13 = .ok (.goto 4, 3) := by decide +kernel
theorem d_Model_part_16 : decode b_Model_part 16 = .ok (.iconst 0, 1) := by decide +kernel
theorem d_Model_part_17 : decode b_Model_part 17 = .ok (.invokevirtual 82, 3) := by decide +kernel
theorem d_Model_part_20 : decode b_Model_part 20 = .ok (.aload_n 0, 1) := by decide +kernel
theorem d_Model_part_21 : decode b_Model_part 21 = .ok (.getfield 64, 3) := by decide +kernel
theorem d_Model_part_24 : decode b_Model_part 24 = .ok (.ifCond .ge 12, 3) := by decide +kernel
theorem d_Model_part_27 : decode b_Model_part 27 = .ok (.aload_n 0, 1) := by decide +kernel
theorem d_Model_part_28 : decode b_Model_part 28 = .ok (.iconst 2, 1) := by decide +kernel
theorem d_Model_part_29 : decode b_Model_part 29 = .ok (.iload_n 1, 1) := by decide +kernel
theorem d_Model_part_30 : decode b_Model_part 30 = .ok (.imul, 1) := by decide +kernel
theorem d_Model_part_31 : decode b_Model_part 31 = .ok (.iconst 1, 1) := by decide +kernel
theorem d_Model_part_32 : decode b_Model_part 32 = .ok (.iadd, 1) := by decide +kernel
theorem d_Model_part_33 : decode b_Model_part 33 = .ok (.invokevirtual 78, 3) := by decide +kernel
theorem d_Model_part_36 : decode b_Model_part 36 = .ok (.return_, 1) := by decide +kernel
end
section
theorem d_Model_go_0 : decode b_Model_go 0 = .ok (.aload_n 0, 1) := by decide +kernel
theorem d_Model_go_1 : decode b_Model_go 1 = .ok (.iload_n 1, 1) := by decide +kernel
theorem d_Model_go_2 : decode b_Model_go 2 = .ok (.putfield 42, 3) := by decide +kernel
theorem d_Model_go_5 : decode b_Model_go 5 = .ok (.aload_n 0, 1) := by decide +kernel
theorem d_Model_go_6 : decode b_Model_go 6 = .ok (.iconst 0, 1) := by decide +kernel
theorem d_Model_go_7 : decode b_Model_go 7 = .ok (.putfield 49, 3) := by decide +kernel
theorem d_Model_go_10 : decode b_Model_go 10 = .ok (.aload_n 0, 1) := by decide +kernel
theorem d_Model_go_11 : decode b_Model_go 11 = .ok (.iconst (-1), 1) := by decide +kernel
theorem d_Model_go_12 : decode b_Model_go 12 = .ok (.putfield 64, 3) := by decide +kernel
theorem d_Model_go_15 : decode b_Model_go 15 = .ok (.aload_n 0, 1) := by decide +kernel
theorem d_Model_go_16 : decode b_Model_go 16 = .ok (.iconst 0, 1) := by decide +kernel
theorem d_Model_go_17 : decode b_Model_go 17 = .ok (.invokevirtual 85, 3) := by decide +kernel
theorem d_Model_go_20 : decode b_Model_go 20 = .ok (.aload_n 0, 1) := by decide +kernel
theorem d_Model_go_21 : decode b_Model_go 21 = .ok (.getfield 64, 3) := by decide +kernel
theorem d_Model_go_24 : decode b_Model_go 24 = .ok (.ifCond .ge 20, 3) := by decide +kernel
theorem d_Model_go_27 : decode b_Model_go 27 = .ok (.aload_n 0, 1) := by decide +kernel
theorem d_Model_go_28 : decode b_Model_go 28 = .ok (.aload_n 0, 1) := by decide +kernel
theorem d_Model_go_29 : decode b_Model_go 29 = .ok (.getfield 49, 3) := by decide +kernel
theorem d_Model_go_32 : decode b_Model_go 32 = .ok (.bipush 59, 2) := by decide +kernel
theorem d_Model_go_34 : decode b_Model_go 34 = .ok (.invokevirtual 52, 3) := by decide +kernel
theorem d_Model_go_37 : decode b_Model_go 37 = .ok (.ifCond .eq 7, 3) := by decide +kernel
theorem d_Model_go_40 : decode b_Model_go 40 = .ok (.iconst 1, 1) := by decide +kernel
theorem d_Model_go_41 : decode b_Model_go 41 = .ok (.goto 4, 3) := by decide +kernel
theorem d_Model_go_44 : decode b_Model_go 44 = .ok (.iconst 0, 1) := by decide +kernel
theorem d_Model_go_45 : decode b_Model_go 45 = .ok (.istore_n 2, 1) := by decide +kernel
theorem d_Model_go_46 : decode b_Model_go 46 = .ok (.iload_n 2, 1) := by decide +kernel
theorem d_Model_go_47 : decode b_Model_go 47 = .ok (.ifCond .eq 18, 3) := by decide +kernel
theorem d_Model_go_50 : decode b_Model_go 50 = .ok (.aload_n 0, 1) := by decide +kernel
theorem d_Model_go_51 : decode b_Model_go 51 = .ok (.aload_n 0, 1) := by decide +kernel
theorem d_Model_go_52 : decode b_Model_go 52 = .ok (.getfield 49, 3) := by decide +kernel
theorem d_Model_go_55 : decode b_Model_go 55 = .ok (.iconst 1, 1) := by decide +kernel
theorem d_Model_go_56 : decode b_Model_go 56 = .ok (.iadd, 1) := by decide +kernel
theorem d_Model_go_57 : decode b_Model_go 57 = .ok (.putfield 49, 3) := by decide +kernel
theorem d_Model_go_60 : decode b_Model_go 60 = .ok (.aload_n 0, 1) := by decide +kernel
theorem d_Model_go_61 : decode b_Model_go 61 = .ok (.iconst 1, 1) := by decide +kernel
theorem d_Model_go_62 : decode b_Model_go 62 = .ok (.invokevirtual 85, 3) := by decide +kernel
theorem d_Model_go_65 : decode b_Model_go 65 = .ok (.aload_n 0, 1) := by decide +kernel
theorem d_Model_go_66 : decode b_Model_go 66 = .ok (.getfield 64, 3) := by decide +kernel
theorem d_Model_go_69 : decode b_Model_go 69 = .ok (.ifCond .ge 29, 3) := by decide +kernel
theorem d_Model_go_72 : decode b_Model_go 72 = .ok (.aload_n 0, 1) := by decide +kernel
theorem d_Model_go_73 : decode b_Model_go 73 = .ok (.getfield 49, 3) := by decide +kernel
theorem d_Model_go_76 : decode b_Model_go 76 = .ok (.aload_n 0, 1) := by decide +kernel
theorem d_Model_go_77 : decode b_Model_go 77 = .ok (.getfield 36, 3) := by decide +kernel
theorem d_Model_go_80 : decode b_Model_go 80 = .ok (.if_icmp .lt 10, 3) := by decide +kernel
theorem d_Model_go_83 : decode b_Model_go 83 = .ok (.aload_n 0, 1) := by decide +kernel
theorem d_Model_go_84 : decode b_Model_go 84 = .ok (.getfield 46, 3) := by decide +kernel
theorem d_Model_go_87 : decode b_Model_go 87 = .ok (.ifCond .eq 11, 3) := by decide +kernel
theorem d_Model_go_90 : decode b_Model_go 90 = .ok (.aload_n 0, 1) := by decide +kernel
theorem d_Model_go_91 : decode b_Model_go 91 = .ok (.aload_n 0, 1) := by decide +kernel
theorem d_Model_go_92 : decode b_Model_go 92 = .ok (.getfield 49, 3) := by decide +kernel
theorem d_Model_go_95 : decode b_Model_go 95 = .ok (.putfield 64, 3) := by decide +kernel
theorem d_Model_go_98 : decode b_Model_go 98 = .ok (.aload_n 0, 1) := by decide +kernel
theorem d_Model_go_99 : decode b_Model_go 99 = .ok (.getfield 42, 3) := by decide +kernel
theorem d_Model_go_102 : decode b_Model_go 102 = .ok (.ifCond .eq 19, 3) := by decide +kernel
theorem d_Model_go_105 : decode b_Model_go 105 = .ok (.aload_n 0, 1) := by decide +kernel
theorem d_Model_go_106 : decode b_Model_go 106 = .ok (.getfield 27, 3) := by decide +kernel
theorem d_Model_go_109 : decode b_Model_go 109 = .ok (.bipush 6, 2) := by decide +kernel
theorem d_Model_go_111 : decode b_Model_go 111 = .ok (.iload_n 2, 1) := by decide +kernel
theorem d_Model_go_112 : decode b_Model_go 112 = .ok (.ifCond .eq 7, 3) := by decide +kernel
theorem d_Model_go_115 : decode b_Model_go 115 = .ok (.iconst 1, 1) := by decide +kernel
theorem d_Model_go_116 : decode b_Model_go 116 = .ok (.goto 4, 3) := by decide +kernel
theorem d_Model_go_119 : decode b_Model_go 119 = .ok (.iconst 0, 1) := by decide +kernel
theorem d_Model_go_120 : decode b_Model_go 120 = .ok (.iastore, 1) := by decide +kernel
theorem d_Model_go_121 : decode b_Model_go 121 = .ok (.return_, 1) := by decide +kernel
theorem d_Model_apply_0 : decode b_Model_apply 0 = .ok (.aload_n 0, 1) := by decide +kernel
theorem d_Model_apply_1 : decode b_Model_apply 1 = .ok (.iconst 0, 1) := by decide +kernel
theorem d_Model_apply_2 : decode b_Model_apply 2 = .ok (.invokevirtual 88, 3) := by decide +kernel
theorem d_Model_apply_5 : decode b_Model_apply 5 = .ok (.aload_n 0, 1) := by decide +kernel
theorem d_Model_apply_6 : decode b_Model_apply 6 = .ok (.getfield 64, 3) := by decide +kernel
theorem d_Model_apply_9 : decode b_Model_apply 9 = .ok (.ifCond .lt 8, 3) := by decide +kernel
theorem d_Model_apply_12 : decode b_Model_apply 12 = .ok (.aload_n 0, 1) := by decide +kernel
theorem d_Model_apply_13 : decode b_Model_apply 13 = .ok (.getfield 64, 3) := by decide +kernel
theorem d_Model_apply_16 : decode b_Model_apply 16 = .ok (.ireturn, 1) := by decide +kernel
theorem d_Model_apply_17 : decode b_Model_apply 17 = .ok (.aload_n 0, 1) := by decide +kernel
theorem d_Model_apply_18 : decode b_Model_apply 18 = .ok (.getfield 36, 3) := by decide +kernel
theorem d_Model_apply_21 : decode b_Model_apply 21 = .ok (.bipush 40, 2) := by decide +kernel
theorem d_Model_apply_23 : decode b_Model_apply 23 = .ok (.if_icmp .le 6, 3) := by decide +kernel
theorem d_Model_apply_26 : decode b_Model_apply 26 = .ok (.bipush 40, 2) := by decide +kernel
theorem d_Model_apply_28 : decode b_Model_apply 28 = .ok (.ireturn, 1) := by decide +kernel
theorem d_Model_apply_29 : decode b_Model_apply 29 = .ok (.iconst 0, 1) := by decide +kernel
theorem d_Model_apply_30 : decode b_Model_apply 30 = .ok (.istore_n 1, 1) := by decide +kernel
theorem d_Model_apply_31 : decode b_Model_apply 31 = .ok (.iload_n 1, 1) := by decide +kernel
theorem d_Model_apply_32 : decode b_Model_apply 32 = .ok (.iconst 4, 1) := by decide +kernel
theorem d_Model_apply_33 : decode b_Model_apply 33 = .ok (.if_icmp .ge 16, 3) := by decide +kernel
theorem d_Model_apply_36 : decode b_Model_apply 36 = .ok (.aload_n 0, 1) := by decide +kernel
theorem d_Model_apply_37 : decode b_Model_apply 37 = .ok (.getfield 24, 3) := by decide +kernel
theorem d_Model_apply_40 : decode b_Model_apply 40 = .ok (.iload_n 1, 1) := by decide +kernel
theorem d_Model_apply_41 : decode b_Model_apply 41 = .ok (.iconst 0, 1) := by decide +kernel
theorem d_Model_apply_42 : decode b_Model_apply 42 = .ok (.iastore, 1) := by decide +kernel
theorem d_Model_apply_43 : decode b_Model_apply 43 = .ok (.iinc 1 1, 3) := by decide +kernel
theorem d_Model_apply_46 : decode b_Model_apply 46 = .ok (.goto (-15), 3) := by decide +kernel
theorem d_Model_apply_49 : decode b_Model_apply 49 = .ok (.iconst 0, 1) := by decide +kernel
theorem d_Model_apply_50 : decode b_Model_apply 50 = .ok (.istore_n 1, 1) := by decide +kernel
theorem d_Model_apply_51 : decode b_Model_apply 51 = .ok (.iload_n 1, 1) := by decide +kernel
theorem d_Model_apply_52 : decode b_Model_apply 52 = .ok (.bipush 7, 2) := by decide +kernel
theorem d_Model_apply_54 : decode b_Model_apply 54 = .ok (.if_icmp .ge 16, 3) := by decide +kernel
theorem d_Model_apply_57 : decode b_Model_apply 57 = .ok (.aload_n 0, 1) := by decide +kernel
theorem d_Model_apply_58 : decode b_Model_apply 58 = .ok (.getfield 27, 3) := by decide +kernel
theorem d_Model_apply_61 : decode b_Model_apply 61 = .ok (.iload_n 1, 1) := by decide +kernel
theorem d_Model_apply_62 : decode b_Model_apply 62 = .ok (.iconst 0, 1) := by decide +kernel
theorem d_Model_apply_63 : decode b_Model_apply 63 = .ok (.iastore, 1) := by decide +kernel
theorem d_Model_apply_64 : decode b_Model_apply 64 = .ok (.iinc 1 1, 3) := by decide +kernel
theorem d_Model_apply_67 : decode b_Model_apply 67 = .ok (.goto (-16), 3) := by decide +kernel
theorem d_Model_apply_70 : decode b_Model_apply 70 = .ok (.aload_n 0, 1) := by decide +kernel
theorem d_Model_apply_71 : decode b_Model_apply 71 = .ok (.iconst 1, 1) := by decide +kernel
theorem d_Model_apply_72 : decode b_Model_apply 72 = .ok (.invokevirtual 88, 3) := by decide +kernel
theorem d_Model_apply_75 : decode b_Model_apply 75 = .ok (.aload_n 0, 1) := by decide +kernel
theorem d_Model_apply_76 : decode b_Model_apply 76 = .ok (.iconst 1, 1) := by decide +kernel
theorem d_Model_apply_77 : decode b_Model_apply 77 = .ok (.putfield 91, 3) := by decide +kernel
theorem d_Model_apply_80 : decode b_Model_apply 80 = .ok (.aload_n 0, 1) := by decide +kernel
theorem d_Model_apply_81 : decode b_Model_apply 81 = .ok (.getfield 27, 3) := by decide +kernel
theorem d_Model_apply_84 : decode b_Model_apply 84 = .ok (.iconst 5, 1) := by decide +kernel
theorem d_Model_apply_85 : decode b_Model_apply 85 = .ok (.aload_n 0, 1) := by decide +kernel
theorem d_Model_apply_86 : decode b_Model_apply 86 = .ok (.iconst 0, 1) := by decide +kernel
theorem d_Model_apply_87 : decode b_Model_apply 87 = .ok (.invokevirtual 94, 3) := by decide +kernel
theorem d_Model_apply_90 : decode b_Model_apply 90 = .ok (.ifCond .ne 11, 3) := by decide +kernel
theorem d_Model_apply_93 : decode b_Model_apply 93 = .ok (.aload_n 0, 1) := by decide +kernel
theorem d_Model_apply_94 : decode b_Model_apply 94 = .ok (.iconst 1, 1) := by decide +kernel
theorem d_Model_apply_95 : decode b_Model_apply 95 = .ok (.invokevirtual 94, 3) := by decide +kernel
theorem d_Model_apply_98 : decode b_Model_apply 98 = .ok (.ifCond .eq 8, 3) := by decide +kernel
theorem d_Model_apply_101 : decode b_Model_apply 101 = .ok (.bipush 100, 2) := by decide +kernel
theorem d_Model_apply_103 : decode b_Model_apply 103 = .ok (.goto 4, 3) := by decide +kernel
theorem d_Model_apply_106 : decode b_Model_apply 106 = .ok (.iconst 1, 1) := by decide +kernel
theorem d_Model_apply_107 : decode b_Model_apply 107 = .ok (.iastore, 1) := by decide +kernel
theorem d_Model_apply_108 : decode b_Model_apply 108 = .ok (.iconst (-1), 1) := by decide +kernel
theorem d_Model_apply_109 : decode b_Model_apply 109 = .ok (.ireturn, 1) := by decide +kernel
theorem d_Model_hasPercent_0 : decode b_Model_hasPercent 0 = .ok (.iconst 0, 1) := by decide +kernel
theorem d_Model_hasPercent_1 : decode b_Model_hasPercent 1 = .ok (.istore_n 2, 1) := by decide +kernel
theorem d_Model_hasPercent_2 : decode b_Model_hasPercent 2 = .ok (.iconst 0, 1) := by decide +kernel
theorem d_Model_hasPercent_3 : decode b_Model_hasPercent 3 = .ok (.istore_n 3, 1) := by decide +kernel
theorem d_Model_hasPercent_4 : decode b_Model_hasPercent 4 = .ok (.iload_n 3, 1) := by decide +kernel
theorem d_Model_hasPercent_5 : decode b_Model_hasPercent 5 = .ok (.aload_n 0, 1) := by decide +kernel
theorem d_Model_hasPercent_6 : decode b_Model_hasPercent 6 = .ok (.getfield 24, 3) := by decide +kernel
theorem d_Model_hasPercent_9 : decode b_Model_hasPercent 9 = .ok (.iload_n 1, 1) := by decide +kernel
theorem d_Model_hasPercent_10 : decode b_Model_hasPercent 10 = .ok (.iaload, 1) := by decide +kernel
theorem d_Model_hasPercent_11 : decode b_Model_hasPercent 11 = .ok (.if_icmp .ge 36, 3) := by decide +kernel
theorem d_Model_hasPercent_14 : decode b_Model_hasPercent 14 = .ok (.iload_n 2, 1) := by decide +kernel
theorem d_Model_hasPercent_15 : decode b_Model_hasPercent 15 = .ok (.ifCond .ne 20, 3) := by decide +kernel
theorem d_Model_hasPercent_18 : decode b_Model_hasPercent 18 = .ok (.aload_n 0, 1) := by decide +kernel
theorem d_Model_hasPercent_19 : decode b_Model_hasPercent 19 = .ok (.getfield 20, 3) := by decide +kernel
theorem d_Model_hasPercent_22 : decode b_Model_hasPercent 22 = .ok (.bipush 40, 2) := by decide +kernel
theorem d_Model_hasPercent_24 : decode b_Model_hasPercent 24 = .ok (.iload_n 1, 1) := by decide +kernel
theorem d_Model_hasPercent_25 : decode b_Model_hasPercent 25 = .ok (.imul, 1) := by decide +kernel
theorem d_Model_hasPercent_26 : decode b_Model_hasPercent 26 = .ok (.iload_n 3, 1) := by decide +kernel
theorem d_Model_hasPercent_27 : decode b_Model_hasPercent 27 = .ok (.iadd, 1) := by decide +kernel
theorem d_Model_hasPercent_28 : decode b_Model_hasPercent 28 = .ok (.iaload, 1) := by decide +kernel
theorem d_Model_hasPercent_29 : decode b_Model_hasPercent 29 = .ok (.sipush 200, 3) := by decide +kernel
theorem d_Model_hasPercent_32 : decode b_Model_hasPercent 32 = .ok (.if_icmp .ne 7, 3) := by decide +kernel
theorem d_Model_hasPercent_35 : decode b_Model_hasPercent 35 = .ok (.iconst 1, 1) := by decide +kernel
theorem d_Model_hasPercent_36 : decode b_Model_hasPercent 36 = .ok (.goto 4, 3) := by decide +kernel
theorem d_Model_hasPercent_39 : decode b_Model_hasPercent 39 = .ok (.iconst 0, 1) := by decide +kernel
theorem d_Model_hasPercent_40 : decode b_Model_hasPercent 40 = .ok (.istore_n 2, 1) := by decide +kernel
theorem d_Model_hasPercent_41 : decode b_Model_hasPercent 41 = .ok (.iinc 3 1, 3) := by decide +kernel
theorem d_Model_hasPercent_44 : decode b_Model_hasPercent 44 = .ok (.goto (-40), 3) := by decide +kernel
theorem d_Model_hasPercent_47 : decode b_Model_hasPercent 47 = .ok (.iload_n 2, 1) := by decide +kernel
theorem d_Model_hasPercent_48 : decode b_Model_hasPercent 48 = .ok (.ireturn, 1) := by decide +kernel
theorem d_Model_mode_0 : decode b_Model_mode 0 = .ok (.iload_n 1, 1) := by decide +kernel
theorem d_Model_mode_1 : decode b_Model_mode 1 = .ok (.ifCond .lt 9, 3) := by decide +kernel
theorem d_Model_mode_4 : decode b_Model_mode 4 = .ok (.iload_n 1, 1) := by decide +kernel
theorem d_Model_mode_5 : decode b_Model_mode 5 = .ok (.bipush 7, 2) := by decide +kernel
theorem d_Model_mode_7 : decode b_Model_mode 7 = .ok (.if_icmp .le 5, 3) := by decide +kernel
theorem d_Model_mode_10 : decode b_Model_mode 10 = .ok (.iconst 0, 1) := by decide +kernel
theorem d_Model_mode_11 : decode b_Model_mode 11 = .ok (.ireturn, 1) := by decide +kernel
theorem d_Model_mode_12 : decode b_Model_mode 12 = .ok (.aload_n 0, 1) := by decide +kernel
theorem d_Model_mode_13 : decode b_Model_mode 13 = .ok (.iload_n 1, 1) := by decide +kernel
theorem d_Model_mode_14 : decode b_Model_mode 14 = .ok (.putfield 16, 3) := by decide +kernel
theorem d_Model_mode_17 : decode b_Model_mode 17 = .ok (.iconst 1, 1) := by decide +kernel
theorem d_Model_mode_18 : decode b_Model_mode 18 = .ok (.ireturn, 1) := by decide +kernel
theorem d_Model_setting_0 : decode b_Model_setting 0 = .ok (.aload_n 0, 1) := by decide +kernel
theorem d_Model_setting_1 : decode b_Model_setting 1 = .ok (.getfield 91, 3) := by decide +kernel
theorem d_Model_setting_4 : decode b_Model_setting 4 = .ok (.ifCond .eq 13, 3) := by decide +kernel
theorem d_Model_setting_7 : decode b_Model_setting 7 = .ok (.iload_n 1, 1) := by decide +kernel
theorem d_Model_setting_8 : decode b_Model_setting 8 = .ok (.ifCond .lt 9, 3) := by decide +kernel
theorem d_Model_setting_11 : decode b_Model_setting 11 = .ok (.iload_n 1, 1) := by decide +kernel
theorem d_Model_setting_12 : decode b_Model_setting 12 = .ok (.bipush 6, 2) := by decide +kernel
theorem d_Model_setting_14 : decode b_Model_setting 14 = .ok (.if_icmp .le 7, 3) := by decide +kernel
theorem d_Model_setting_17 : decode b_Model_setting 17 = .ok (.iconst (-1), 1) := by decide +kernel
theorem d_Model_setting_18 : decode b_Model_setting 18 = .ok (.goto 9, 3) := by decide +kernel
theorem d_Model_setting_21 : decode b_Model_setting 21 = .ok (.aload_n 0, 1) := by decide +kernel
theorem d_Model_setting_22 : decode b_Model_setting 22 = .ok (.getfield 27, 3) := by decide +kernel
theorem d_Model_setting_25 : decode b_Model_setting 25 = .ok (.iload_n 1, 1) := by decide +kernel
theorem d_Model_setting_26 : decode b_Model_setting 26 = .ok (.iaload, 1) := by decide +kernel
theorem d_Model_setting_27 : decode b_Model_setting 27 = .ok (.ireturn, 1) := by decide +kernel
theorem d_Model_borrowed_0 : decode b_Model_borrowed 0 = .ok (.iload_n 1, 1) := by decide +kernel
theorem d_Model_borrowed_1 : decode b_Model_borrowed 1 = .ok (.ifCond .eq 17, 3) := by decide +kernel
theorem d_Model_borrowed_4 : decode b_Model_borrowed 4 = .ok (.aload_n 0, 1) := by decide +kernel
theorem d_Model_borrowed_5 : decode b_Model_borrowed 5 = .ok (.getfield 27, 3) := by decide +kernel
theorem d_Model_borrowed_8 : decode b_Model_borrowed 8 = .ok (.bipush 6, 2) := by decide +kernel
theorem d_Model_borrowed_10 : decode b_Model_borrowed 10 = .ok (.iaload, 1) := by decide +kernel
theorem d_Model_borrowed_11 : decode b_Model_borrowed 11 = .ok (.ifCond .ne 7, 3) := by decide +kernel
theorem d_Model_borrowed_14 : decode b_Model_borrowed 14 = .ok (.iconst 1, 1) := by decide +kernel
theorem d_Model_borrowed_15 : decode b_Model_borrowed 15 = .ok (.goto 4, 3) := by decide +kernel
theorem d_Model_borrowed_18 : decode b_Model_borrowed 18 = .ok (.iconst 0, 1) := by decide +kernel
theorem d_Model_borrowed_19 : decode b_Model_borrowed 19 = .ok (.ireturn, 1) := by decide +kernel
theorem d_Model_shownLength_0 : decode b_Model_shownLength 0 = .ok (.aload_n 0, 1) := by decide +kernel
theorem d_Model_shownLength_1 : decode b_Model_shownLength 1 = .ok (.iload_n 1, 1) := by decide +kernel
theorem d_Model_shownLength_2 : decode b_Model_shownLength 2 = .ok (.invokevirtual 97, 3) := by decide +kernel
theorem d_Model_shownLength_5 : decode b_Model_shownLength 5 = .ok (.ifCond .eq 20, 3) := by decide +kernel
theorem d_Model_shownLength_8 : decode b_Model_shownLength 8 = .ok (.aload_n 0, 1) := by decide +kernel
theorem d_Model_shownLength_9 : decode b_Model_shownLength 9 = .ok (.getfield 24, 3) := by decide +kernel
theorem d_Model_shownLength_12 : decode b_Model_shownLength 12 = .ok (.iload_n 2, 1) := by decide +kernel
theorem d_Model_shownLength_13 : decode b_Model_shownLength 13 = .ok (.iaload, 1) := by decide +kernel
theorem d_Model_shownLength_14 : decode b_Model_shownLength 14 = .ok (.iload_n 2, 1) := by decide +kernel
theorem d_Model_shownLength_15 : decode b_Model_shownLength 15 = .ok (.ifCond .ne 7, 3) := by decide +kernel
theorem d_Model_shownLength_18 : decode b_Model_shownLength 18 = .ok (.iconst 1, 1) := by decide +kernel
theorem d_Model_shownLength_19 : decode b_Model_shownLength 19 = .ok (.goto 4, 3) := by decide +kernel
theorem d_Model_shownLength_22 : decode b_Model_shownLength 22 = .ok (.iconst 0, 1) := by decide +kernel
theorem d_Model_shownLength_23 : decode b_Model_shownLength 23 = .ok (.iadd, 1) := by decide +kernel
theorem d_Model_shownLength_24 : decode b_Model_shownLength 24 = .ok (.ireturn, 1) := by decide +kernel
theorem d_Model_shownLength_25 : decode b_Model_shownLength 25 = .ok (.aload_n 0, 1) := by decide +kernel
theorem d_Model_shownLength_26 : decode b_Model_shownLength 26 = .ok (.getfield 24, 3) := by decide +kernel
theorem d_Model_shownLength_29 : decode b_Model_shownLength 29 = .ok (.iload_n 1, 1) := by decide +kernel
theorem d_Model_shownLength_30 : decode b_Model_shownLength 30 = .ok (.ifCond .eq 9, 3) := by decide +kernel
theorem d_Model_shownLength_33 : decode b_Model_shownLength 33 = .ok (.iconst 2, 1) := by decide +kernel
theorem d_Model_shownLength_34 : decode b_Model_shownLength 34 = .ok (.iload_n 2, 1) := by decide +kernel
theorem d_Model_shownLength_35 : decode b_Model_shownLength 35 = .ok (.iadd, 1) := by decide +kernel
theorem d_Model_shownLength_36 : decode b_Model_shownLength 36 = .ok (.goto 4, 3) := by decide +kernel
theorem d_Model_shownLength_39 : decode b_Model_shownLength 39 = .ok (.iload_n 2, 1) := by decide +kernel
theorem d_Model_shownLength_40 : decode b_Model_shownLength 40 = .ok (.iaload, 1) := by decide +kernel
theorem d_Model_shownLength_41 : decode b_Model_shownLength 41 = .ok (.ireturn, 1) := by decide +kernel
theorem d_Model_shown_0 : decode b_Model_shown 0 = .ok (.iload_n 1, 1) := by decide +kernel
theorem d_Model_shown_1 : decode b_Model_shown 1 = .ok (.ifCond .eq 17, 3) := by decide +kernel
theorem d_Model_shown_4 : decode b_Model_shown 4 = .ok (.aload_n 0, 1) := by decide +kernel
theorem d_Model_shown_5 : decode b_Model_shown 5 = .ok (.iload_n 1, 1) := by decide +kernel
theorem d_Model_shown_6 : decode b_Model_shown 6 = .ok (.invokevirtual 97, 3) := by decide +kernel
theorem d_Model_shown_9 : decode b_Model_shown 9 = .ok (.ifCond .ne 9, 3) := by decide +kernel
theorem d_Model_shown_12 : decode b_Model_shown 12 = .ok (.iconst 2, 1) := by decide +kernel
theorem d_Model_shown_13 : decode b_Model_shown 13 = .ok (.iload_n 2, 1) := by decide +kernel
theorem d_Model_shown_14 : decode b_Model_shown 14 = .ok (.iadd, 1) := by decide +kernel
theorem d_Model_shown_15 : decode b_Model_shown 15 = .ok (.goto 4, 3) := by decide +kernel
theorem d_Model_shown_18 : decode b_Model_shown 18 = .ok (.iload_n 2, 1) := by decide +kernel
theorem d_Model_shown_19 : decode b_Model_shown 19 = .ok (.istore 4, 2) := by decide +kernel
theorem d_Model_shown_21 : decode b_Model_shown 21 = .ok (.aload_n 0, 1) := by decide +kernel
theorem d_Model_shown_22 : decode b_Model_shown 22 = .ok (.iload_n 1, 1) := by decide +kernel
theorem d_Model_shown_23 : decode b_Model_shown 23 = .ok (.invokevirtual 97, 3) := by decide +kernel
theorem d_Model_shown_26 : decode b_Model_shown 26 = .ok (.ifCond .eq 13, 3) := by decide +kernel
theorem d_Model_shown_29 : decode b_Model_shown 29 = .ok (.iload_n 2, 1) := by decide +kernel
theorem d_Model_shown_30 : decode b_Model_shown 30 = .ok (.ifCond .ne 9, 3) := by decide +kernel
theorem d_Model_shown_33 : decode b_Model_shown 33 = .ok (.iload_n 3, 1) := by decide +kernel
theorem d_Model_shown_34 : decode b_Model_shown 34 = .ok (.iconst 1, 1) := by decide +kernel
theorem d_Model_shown_35 : decode b_Model_shown 35 = .ok (.isub, 1) := by decide +kernel
theorem d_Model_shown_36 : decode b_Model_shown 36 = .ok (.goto 4, 3) := by decide +kernel
theorem d_Model_shown_39 : decode b_Model_shown 39 = .ok (.iload_n 3, 1) := by decide +kernel
theorem d_Model_shown_40 : decode b_Model_shown 40 = .ok (.istore 5, 2) := by decide +kernel
theorem d_Model_shown_42 : decode b_Model_shown 42 = .ok (.iload 5, 2) := by decide +kernel
theorem d_Model_shown_44 : decode b_Model_shown 44 = .ok (.ifCond .ge 6, 3) := by decide +kernel
theorem d_Model_shown_47 : decode b_Model_shown 47 = .ok (.bipush 45, 2) := by decide +kernel
theorem d_Model_shown_49 : decode b_Model_shown 49 = .ok (.ireturn, 1) := by decide +kernel
theorem d_Model_shown_50 : decode b_Model_shown 50 = .ok (.aload_n 0, 1) := by decide +kernel
theorem d_Model_shown_51 : decode b_Model_shown 51 = .ok (.getfield 20, 3) := by decide +kernel
theorem d_Model_shown_54 : decode b_Model_shown 54 = .ok (.bipush 40, 2) := by decide +kernel
theorem d_Model_shown_56 : decode b_Model_shown 56 = .ok (.iload 4, 2) := by decide +kernel
theorem d_Model_shown_58 : decode b_Model_shown 58 = .ok (.imul, 1) := by decide +kernel
theorem d_Model_shown_59 : decode b_Model_shown 59 = .ok (.iload 5, 2) := by decide +kernel
theorem d_Model_shown_61 : decode b_Model_shown 61 = .ok (.iadd, 1) := by decide +kernel
theorem d_Model_shown_62 : decode b_Model_shown 62 = .ok (.iaload, 1) := by decide +kernel
theorem d_Model_shown_63 : decode b_Model_shown 63 = .ok (.istore 6, 2) := by decide +kernel
theorem d_Model_shown_65 : decode b_Model_shown 65 = .ok (.iload 6, 2) := by decide +kernel
theorem d_Model_shown_67 : decode b_Model_shown 67 = .ok (.sipush 200, 3) := by decide +kernel
theorem d_Model_shown_70 : decode b_Model_shown 70 = .ok (.if_icmp .ne 8, 3) := by decide +kernel
theorem d_Model_shown_73 : decode b_Model_shown 73 = .ok (.bipush 37, 2) := by decide +kernel
theorem d_Model_shown_75 : decode b_Model_shown 75 = .ok (.goto 5, 3) := by decide +kernel
theorem d_Model_shown_78 : decode b_Model_shown 78 = .ok (.iload 6, 2) := by decide +kernel
theorem d_Model_shown_80 : decode b_Model_shown 80 = .ok (.ireturn, 1) := by decide +kernel
theorem d_Model_write_0 : decode b_Model_write 0 = .ok (.aload_n 0, 1) := by decide +kernel
theorem d_Model_write_1 : decode b_Model_write 1 = .ok (.getfield 13, 3) := by decide +kernel
theorem d_Model_write_4 : decode b_Model_write 4 = .ok (.aload_n 0, 1) := by decide +kernel
theorem d_Model_write_5 : decode b_Model_write 5 = .ok (.getfield 39, 3) := by decide +kernel
theorem d_Model_write_8 : decode b_Model_write 8 = .ok (.iload_n 1, 1) := by decide +kernel
theorem d_Model_write_9 : decode b_Model_write 9 = .ok (.i2c, 1) := by decide +kernel
theorem d_Model_write_10 : decode b_Model_write 10 = .ok (.castore, 1) := by decide +kernel
theorem d_Model_write_11 : decode b_Model_write 11 = .ok (.aload_n 0, 1) := by decide +kernel
theorem d_Model_write_12 : decode b_Model_write 12 = .ok (.aload_n 0, 1) := by decide +kernel
theorem d_Model_write_13 : decode b_Model_write 13 = .ok (.getfield 39, 3) := by decide +kernel
theorem d_Model_write_16 : decode b_Model_write 16 = .ok (.iconst 1, 1) := by decide +kernel
theorem d_Model_write_17 : decode b_Model_write 17 = .ok (.iadd, 1) := by decide +kernel
theorem d_Model_write_18 : decode b_Model_write 18 = .ok (.putfield 39, 3) := by decide +kernel
theorem d_Model_write_21 : decode b_Model_write 21 = .ok (.return_, 1) := by decide +kernel
theorem d_Model_writeAffix_0 : decode b_Model_writeAffix 0 = .ok (.aload_n 0, 1) := by decide +kernel
theorem d_Model_writeAffix_1 : decode b_Model_writeAffix 1 = .ok (.iload_n 1, 1) := by decide +kernel
theorem d_Model_writeAffix_2 : decode b_Model_writeAffix 2 = .ok (.iload_n 2, 1) := by decide +kernel
theorem d_Model_writeAffix_3 : decode b_Model_writeAffix 3 = .ok (.invokevirtual 101, 3) := by decide +kernel
theorem d_Model_writeAffix_6 : decode b_Model_writeAffix 6 = .ok (.istore_n 3, 1) := by decide +kernel
theorem d_Model_writeAffix_7 : decode b_Model_writeAffix 7 = .ok (.iconst 0, 1) := by decide +kernel
theorem d_Model_writeAffix_8 : decode b_Model_writeAffix 8 = .ok (.istore 4, 2) := by decide +kernel
theorem d_Model_writeAffix_10 : decode b_Model_writeAffix 10 = .ok (.iload 4, 2) := by decide +kernel
theorem d_Model_writeAffix_12 : decode b_Model_writeAffix 12 = .ok (.iload_n 3, 1) := by decide +kernel
theorem d_Model_writeAffix_13 : decode b_Model_writeAffix 13 = .ok (.if_icmp .ge 25, 3) := by decide +kernel
theorem d_Model_writeAffix_16 : decode b_Model_writeAffix 16 = .ok (.aload_n 0, 1) := by decide +kernel
theorem d_Model_writeAffix_17 : decode b_Model_writeAffix 17 = .ok (.iload_n 1, 1) := by decide +kernel
theorem d_Model_writeAffix_18 : decode b_Model_writeAffix 18 = .ok (.iload_n 2, 1) := by decide +kernel
theorem d_Model_writeAffix_19 : decode b_Model_writeAffix 19 = .ok (.iload 4, 2) := by decide +kernel
theorem d_Model_writeAffix_21 : decode b_Model_writeAffix 21 = .ok (.invokevirtual 105, 3) := by decide +kernel
theorem d_Model_writeAffix_24 : decode b_Model_writeAffix 24 = .ok (.istore 5, 2) := by decide +kernel
theorem d_Model_writeAffix_26 : decode b_Model_writeAffix 26 = .ok (.aload_n 0, 1) := by decide +kernel
theorem d_Model_writeAffix_27 : decode b_Model_writeAffix 27 = .ok (.iload 5, 2) := by decide +kernel
theorem d_Model_writeAffix_29 : decode b_Model_writeAffix 29 = .ok (.invokevirtual 109, 3) := by decide +kernel
theorem d_Model_writeAffix_32 : decode b_Model_writeAffix 32 = .ok (.iinc 4 1, 3) := by decide +kernel
theorem d_Model_writeAffix_35 : decode b_Model_writeAffix 35 = .ok (.goto (-25), 3) := by decide +kernel
theorem d_Model_writeAffix_38 : decode b_Model_writeAffix 38 = .ok (.return_, 1) := by decide +kernel
theorem d_Model_lay_0 : decode b_Model_lay 0 = .ok (.aload_n 0, 1) := by decide +kernel
theorem d_Model_lay_1 : decode b_Model_lay 1 = .ok (.iconst 0, 1) := by decide +kernel
theorem d_Model_lay_2 : decode b_Model_lay 2 = .ok (.putfield 112, 3) := by decide +kernel
theorem d_Model_lay_5 : decode b_Model_lay 5 = .ok (.ldc2_w 115, 3) := by decide +kernel
theorem d_Model_lay_8 : decode b_Model_lay 8 = .ok (.lstore_n 3, 1) := by decide +kernel
theorem d_Model_lay_9 : decode b_Model_lay 9 = .ok (.lload_n 3, 1) := by decide +kernel
theorem d_Model_lay_10 : decode b_Model_lay 10 = .ok (.lconst 0, 1) := by decide +kernel
theorem d_Model_lay_11 : decode b_Model_lay 11 = .ok (.lcmp, 1) := by decide +kernel
theorem d_Model_lay_12 : decode b_Model_lay 12 = .ok (.ifCond .le 55, 3) := by decide +kernel
theorem d_Model_lay_15 : decode b_Model_lay 15 = .ok (.lload_n 1, 1) := by decide +kernel
theorem d_Model_lay_16 : decode b_Model_lay 16 = .ok (.lload_n 3, 1) := by decide +kernel
theorem d_Model_lay_17 : decode b_Model_lay 17 = .ok (.ldiv, 1) := by decide +kernel
theorem d_Model_lay_18 : decode b_Model_lay 18 = .ok (.ldc2_w 117, 3) := by decide +kernel
theorem d_Model_lay_21 : decode b_Model_lay 21 = .ok (.lrem, 1) := by decide +kernel
theorem d_Model_lay_22 : decode b_Model_lay 22 = .ok (.l2i, 1) := by decide +kernel
theorem d_Model_lay_23 : decode b_Model_lay 23 = .ok (.istore 5, 2) := by decide +kernel
theorem d_Model_lay_25 : decode b_Model_lay 25 = .ok (.iload 5, 2) := by decide +kernel
theorem d_Model_lay_27 : decode b_Model_lay 27 = .ok (.ifCond .gt 10, 3) := by decide +kernel
theorem d_Model_lay_30 : decode b_Model_lay 30 = .ok (.aload_n 0, 1) := by decide +kernel
theorem d_Model_lay_31 : decode b_Model_lay 31 = .ok (.getfield 112, 3) := by decide +kernel
theorem d_Model_lay_34 : decode b_Model_lay 34 = .ok (.ifCond .le 24, 3) := by decide +kernel
theorem d_Model_lay_37 : decode b_Model_lay 37 = .ok (.aload_n 0, 1) := by decide +kernel
theorem d_Model_lay_38 : decode b_Model_lay 38 = .ok (.getfield 30, 3) := by decide +kernel
theorem d_Model_lay_41 : decode b_Model_lay 41 = .ok (.aload_n 0, 1) := by decide +kernel
theorem d_Model_lay_42 : decode b_Model_lay 42 = .ok (.getfield 112, 3) := by decide +kernel
theorem d_Model_lay_45 : decode b_Model_lay 45 = .ok (.iload 5, 2) := by decide +kernel
theorem d_Model_lay_47 : decode b_Model_lay 47 = .ok (.iastore, 1) := by decide +kernel
theorem d_Model_lay_48 : decode b_Model_lay 48 = .ok (.aload_n 0, 1) := by decide +kernel
theorem d_Model_lay_49 : decode b_Model_lay 49 = .ok (.aload_n 0, 1) := by decide +kernel
theorem d_Model_lay_50 : decode b_Model_lay 50 = .ok (.getfield 112, 3) := by decide +kernel
theorem d_Model_lay_53 : decode b_Model_lay 53 = .ok (.iconst 1, 1) := by decide +kernel
theorem d_Model_lay_54 : decode b_Model_lay 54 = .ok (.iadd, 1) := by decide +kernel
theorem d_Model_lay_55 : decode b_Model_lay 55 = .ok (.putfield 112, 3) := by decide +kernel
theorem d_Model_lay_58 : decode b_Model_lay 58 = .ok (.lload_n 3, 1) := by decide +kernel
theorem d_Model_lay_59 : decode b_Model_lay 59 = .ok (.ldc2_w 117, 3) := by decide +kernel
theorem d_Model_lay_62 : decode b_Model_lay 62 = .ok (.ldiv, 1) := by decide +kernel
theorem d_Model_lay_63 : decode b_Model_lay 63 = .ok (.lstore_n 3, 1) := by decide +kernel
theorem d_Model_lay_64 : decode b_Model_lay 64 = .ok (.goto (-55), 3) := by decide +kernel
theorem d_Model_lay_67 : decode b_Model_lay 67 = .ok (.return_, 1) := by decide +kernel
theorem d_Model_rest_0 : decode b_Model_rest 0 = .ok (.iload_n 1, 1) := by decide +kernel
theorem d_Model_rest_1 : decode b_Model_rest 1 = .ok (.ifCond .ge 7, 3) := by decide +kernel
theorem d_Model_rest_4 : decode b_Model_rest 4 = .ok (.iconst 0, 1) := by decide +kernel
theorem d_Model_rest_5 : decode b_Model_rest 5 = .ok (.goto 9, 3) := by decide +kernel
theorem d_Model_rest_8 : decode b_Model_rest 8 = .ok (.aload_n 0, 1) := by decide +kernel
theorem d_Model_rest_9 : decode b_Model_rest 9 = .ok (.getfield 30, 3) := by decide +kernel
theorem d_Model_rest_12 : decode b_Model_rest 12 = .ok (.iload_n 1, 1) := by decide +kernel
theorem d_Model_rest_13 : decode b_Model_rest 13 = .ok (.iaload, 1) := by decide +kernel
theorem d_Model_rest_14 : decode b_Model_rest 14 = .ok (.istore_n 2, 1) := by decide +kernel
theorem d_Model_rest_15 : decode b_Model_rest 15 = .ok (.iconst 0, 1) := by decide +kernel
theorem d_Model_rest_16 : decode b_Model_rest 16 = .ok (.istore_n 3, 1) := by decide +kernel
theorem d_Model_rest_17 : decode b_Model_rest 17 = .ok (.iload_n 1, 1) := by decide +kernel
theorem d_Model_rest_18 : decode b_Model_rest 18 = .ok (.ifCond .ge 7, 3) := by decide +kernel
theorem d_Model_rest_21 : decode b_Model_rest 21 = .ok (.iconst 0, 1) := by decide +kernel
theorem d_Model_rest_22 : decode b_Model_rest 22 = .ok (.goto 6, 3) := by decide +kernel
theorem d_Model_rest_25 : decode b_Model_rest 25 = .ok (.iload_n 1, 1) := by decide +kernel
theorem d_Model_rest_26 : decode b_Model_rest 26 = .ok (.iconst 1, 1) := by decide +kernel
theorem d_Model_rest_27 : decode b_Model_rest 27 = .ok (.iadd, 1) := by decide +kernel
theorem d_Model_rest_28 : decode b_Model_rest 28 = .ok (.istore 4, 2) := by decide +kernel
theorem d_Model_rest_30 : decode b_Model_rest 30 = .ok (.iload 4, 2) := by decide +kernel
theorem d_Model_rest_32 : decode b_Model_rest 32 = .ok (.aload_n 0, 1) := by decide +kernel
theorem d_Model_rest_33 : decode b_Model_rest 33 = .ok (.getfield 112, 3) := by decide +kernel
theorem d_Model_rest_36 : decode b_Model_rest 36 = .ok (.if_icmp .ge 29, 3) := by decide +kernel
theorem d_Model_rest_39 : decode b_Model_rest 39 = .ok (.iload_n 3, 1) := by decide +kernel
theorem d_Model_rest_40 : decode b_Model_rest 40 = .ok (.ifCond .ne 13, 3) := by decide +kernel
theorem d_Model_rest_43 : decode b_Model_rest 43 = .ok (.aload_n 0, 1) := by decide +kernel
theorem d_Model_rest_44 : decode b_Model_rest 44 = .ok (.getfield 30, 3) := by decide +kernel
theorem d_Model_rest_47 : decode b_Model_rest 47 = .ok (.iload 4, 2) := by decide +kernel
theorem d_Model_rest_49 : decode b_Model_rest 49 = .ok (.iaload, 1) := by decide +kernel
theorem d_Model_rest_50 : decode b_Model_rest 50 = .ok (.ifCond .le 7, 3) := by decide +kernel
theorem d_Model_rest_53 : decode b_Model_rest 53 = .ok (.iconst 1, 1) := by decide +kernel
theorem d_Model_rest_54 : decode b_Model_rest 54 = .ok (.goto 4, 3) := by decide +kernel
theorem d_Model_rest_57 : decode b_Model_rest 57 = .ok (.iconst 0, 1) := by decide +kernel
theorem d_Model_rest_58 : decode b_Model_rest 58 = .ok (.istore_n 3, 1) := by decide +kernel
theorem d_Model_rest_59 : decode b_Model_rest 59 = .ok (.iinc 4 1, 3) := by decide +kernel
theorem d_Model_rest_62 : decode b_Model_rest 62 = .ok (.goto (-32), 3) := by decide +kernel
theorem d_Model_rest_65 : decode b_Model_rest 65 = .ok (.iload_n 2, 1) := by decide +kernel
theorem d_Model_rest_66 : decode b_Model_rest 66 = .ok (.ifCond .ne 9, 3) := by decide +kernel
theorem d_Model_rest_69 : decode b_Model_rest 69 = .ok (.iload_n 3, 1) := by decide +kernel
theorem d_Model_rest_70 : decode b_Model_rest 70 = .ok (.ifCond .ne 5, 3) := by decide +kernel
theorem d_Model_rest_73 : decode b_Model_rest 73 = .ok (.iconst 0, 1) := by decide +kernel
theorem d_Model_rest_74 : decode b_Model_rest 74 = .ok (.ireturn, 1) := by decide +kernel
theorem d_Model_rest_75 : decode b_Model_rest 75 = .ok (.iload_n 2, 1) := by decide +kernel
theorem d_Model_rest_76 : decode b_Model_rest 76 = .ok (.iconst 5, 1) := by decide +kernel
theorem d_Model_rest_77 : decode b_Model_rest 77 = .ok (.if_icmp .ge 7, 3) := by decide +kernel
theorem d_Model_rest_80 : decode b_Model_rest 80 = .ok (.iconst 1, 1) := by decide +kernel
theorem d_Model_rest_81 : decode b_Model_rest 81 = .ok (.goto 17, 3) := by decide +kernel
theorem d_Model_rest_84 : decode b_Model_rest 84 = .ok (.iload_n 2, 1) := by decide +kernel
theorem d_Model_rest_85 : decode b_Model_rest 85 = .ok (.iconst 5, 1) := by decide +kernel
theorem d_Model_rest_86 : decode b_Model_rest 86 = .ok (.if_icmp .gt 7, 3) := by decide +kernel
theorem d_Model_rest_89 : decode b_Model_rest 89 = .ok (.iload_n 3, 1) := by decide +kernel
theorem d_Model_rest_90 : decode b_Model_rest 90 = .ok (.ifCond .eq 7, 3) := by decide +kernel
theorem d_Model_rest_93 : decode b_Model_rest 93 = .ok (.iconst 3, 1) := by decide +kernel
theorem d_Model_rest_94 : decode b_Model_rest 94 = .ok (.goto 4, 3) := by decide +kernel
theorem d_Model_rest_97 : decode b_Model_rest 97 = .ok (.iconst 2, 1) := by decide +kernel
theorem d_Model_rest_98 : decode b_Model_rest 98 = .ok (.ireturn, 1) := by decide +kernel
theorem d_Model_away_0 : decode b_Model_away 0 = .ok (.aload_n 0, 1) := by decide +kernel
theorem d_Model_away_1 : decode b_Model_away 1 = .ok (.getfield 16, 3) := by decide +kernel
theorem d_Model_away_4 : decode b_Model_away 4 = .ok (.tableswitch 78 0 5 #[40, 42, 44, 54, 56, 67], 40) := by decide +kernel
theorem d_Model_away_44 : decode b_Model_away 44 = .ok (.iconst 1, 1) := by decide +kernel
theorem d_Model_away_45 : decode b_Model_away 45 = .ok (.ireturn, 1) := by decide +kernel
theorem d_Model_away_46 : decode b_Model_away 46 = .ok (.iconst 0, 1) := by decide +kernel
theorem d_Model_away_47 : decode b_Model_away 47 = .ok (.ireturn, 1) := by decide +kernel
theorem d_Model_away_48 : decode b_Model_away 48 = .ok (.iload_n 2, 1) := by decide +kernel
theorem d_Model_away_49 : decode b_Model_away 49 = .ok (.ifCond .ne 7, 3) := by decide +kernel
theorem d_Model_away_52 : decode b_Model_away 52 = .ok (.iconst 1, 1) := by decide +kernel
theorem d_Model_away_53 : decode b_Model_away 53 = .ok (.goto 4, 3) := by decide +kernel
theorem d_Model_away_56 : decode b_Model_away 56 = .ok (.iconst 0, 1) := by decide +kernel
theorem d_Model_away_57 : decode b_Model_away 57 = .ok (.ireturn, 1) := by decide +kernel
theorem d_Model_away_58 : decode b_Model_away 58 = .ok (.iload_n 2, 1) := by decide +kernel
theorem d_Model_away_59 : decode b_Model_away 59 = .ok (.ireturn, 1) := by decide +kernel
theorem d_Model_away_60 : decode b_Model_away 60 = .ok (.iload_n 1, 1) := by decide +kernel
theorem d_Model_away_61 : decode b_Model_away 61 = .ok (.iconst 2, 1) := by decide +kernel
theorem d_Model_away_62 : decode b_Model_away 62 = .ok (.if_icmp .lt 7, 3) := by decide +kernel
theorem d_Model_away_65 : decode b_Model_away 65 = .ok (.iconst 1, 1) := by decide +kernel
theorem d_Model_away_66 : decode b_Model_away 66 = .ok (.goto 4, 3) := by decide +kernel
theorem d_Model_away_69 : decode b_Model_away 69 = .ok (.iconst 0, 1) := by decide +kernel
theorem d_Model_away_70 : decode b_Model_away 70 = .ok (.ireturn, 1) := by decide +kernel
theorem d_Model_away_71 : decode b_Model_away 71 = .ok (.iload_n 1, 1) := by decide +kernel
theorem d_Model_away_72 : decode b_Model_away 72 = .ok (.iconst 3, 1) := by decide +kernel
theorem d_Model_away_73 : decode b_Model_away 73 = .ok (.if_icmp .ne 7, 3) := by decide +kernel
theorem d_Model_away_76 : decode b_Model_away 76 = .ok (.iconst 1, 1) := by decide +kernel
theorem d_Model_away_77 : decode b_Model_away 77 = .ok (.goto 4, 3) := by decide +kernel
theorem d_Model_away_80 : decode b_Model_away 80 = .ok (.iconst 0, 1) := by decide +kernel
theorem d_Model_away_81 : decode b_Model_away 81 = .ok (.ireturn, 1) := by decide +kernel
theorem d_Model_away_82 : decode b_Model_away 82 = .ok (.iload_n 1, 1) := by decide +kernel
theorem d_Model_away_83 : decode b_Model_away 83 = .ok (.iconst 3, 1) := by decide +kernel
theorem d_Model_away_84 : decode b_Model_away 84 = .ok (.if_icmp .eq 12, 3) := by decide +kernel
theorem d_Model_away_87 : decode b_Model_away 87 = .ok (.iload_n 1, 1) := by decide +kernel
theorem d_Model_away_88 : decode b_Model_away 88 = .ok (.iconst 2, 1) := by decide +kernel
theorem d_Model_away_89 : decode b_Model_away 89 = .ok (.if_icmp .ne 11, 3) := by decide +kernel
theorem d_Model_away_92 : decode b_Model_away 92 = .ok (.iload_n 3, 1) := by decide +kernel
theorem d_Model_away_93 : decode b_Model_away 93 = .ok (.ifCond .eq 7, 3) := by decide +kernel
theorem d_Model_away_96 : decode b_Model_away 96 = .ok (.iconst 1, 1) := by decide +kernel
theorem d_Model_away_97 : decode b_Model_away 97 = .ok (.goto 4, 3) := by decide +kernel
theorem d_Model_away_100 : decode b_Model_away 100 = .ok (.iconst 0, 1) := by decide +kernel
theorem d_Model_away_101 : decode b_Model_away 101 = .ok (.ireturn, 1) := by decide +kernel
theorem d_Model_round_0 : decode b_Model_round 0 = .ok (.aload_n 0, 1) := by decide +kernel
theorem d_Model_round_1 : decode b_Model_round 1 = .ok (.getfield 119, 3) := by decide +kernel
theorem d_Model_round_4 : decode b_Model_round 4 = .ok (.iload_n 1, 1) := by decide +kernel
theorem d_Model_round_5 : decode b_Model_round 5 = .ok (.iadd, 1) := by decide +kernel
theorem d_Model_round_6 : decode b_Model_round 6 = .ok (.istore_n 3, 1) := by decide +kernel
theorem d_Model_round_7 : decode b_Model_round 7 = .ok (.iload_n 3, 1) := by decide +kernel
theorem d_Model_round_8 : decode b_Model_round 8 = .ok (.aload_n 0, 1) := by decide +kernel
theorem d_Model_round_9 : decode b_Model_round 9 = .ok (.getfield 112, 3) := by decide +kernel
theorem d_Model_round_12 : decode b_Model_round 12 = .ok (.if_icmp .lt 5, 3) := by decide +kernel
theorem d_Model_round_15 : decode b_Model_round 15 = .ok (.iconst 1, 1) := by decide +kernel
theorem d_Model_round_16 : decode b_Model_round 16 = .ok (.ireturn, 1) := by decide +kernel
theorem d_Model_round_17 : decode b_Model_round 17 = .ok (.aload_n 0, 1) := by decide +kernel
theorem d_Model_round_18 : decode b_Model_round 18 = .ok (.iload_n 3, 1) := by decide +kernel
theorem d_Model_round_19 : decode b_Model_round 19 = .ok (.invokevirtual 122, 3) := by decide +kernel
theorem d_Model_round_22 : decode b_Model_round 22 = .ok (.istore 4, 2) := by decide +kernel
theorem d_Model_round_24 : decode b_Model_round 24 = .ok (.iload 4, 2) := by decide +kernel
theorem d_Model_round_26 : decode b_Model_round 26 = .ok (.ifCond .le 14, 3) := by decide +kernel
theorem d_Model_round_29 : decode b_Model_round 29 = .ok (.aload_n 0, 1) := by decide +kernel
theorem d_Model_round_30 : decode b_Model_round 30 = .ok (.getfield 16, 3) := by decide +kernel
theorem d_Model_round_33 : decode b_Model_round 33 = .ok (.bipush 7, 2) := by decide +kernel
theorem d_Model_round_35 : decode b_Model_round 35 = .ok (.if_icmp .ne 5, 3) := by decide +kernel
theorem d_Model_round_38 : decode b_Model_round 38 = .ok (.iconst 0, 1) := by decide +kernel
theorem d_Model_round_39 : decode b_Model_round 39 = .ok (.ireturn, 1) := by decide +kernel
theorem d_Model_round_40 : decode b_Model_round 40 = .ok (.iload_n 3, 1) := by decide +kernel
theorem d_Model_round_41 : decode b_Model_round 41 = .ok (.ifCond .le 21, 3) := by decide +kernel
theorem d_Model_round_44 : decode b_Model_round 44 = .ok (.aload_n 0, 1) := by decide +kernel
theorem d_Model_round_45 : decode b_Model_round 45 = .ok (.getfield 30, 3) := by decide +kernel
theorem d_Model_round_48 : decode b_Model_round 48 = .ok (.iload_n 3, 1) := by decide +kernel
theorem d_Model_round_49 : decode b_Model_round 49 = .ok (.iconst 1, 1) := by decide +kernel
theorem d_Model_round_50 : decode b_Model_round 50 = .ok (.isub, 1) := by decide +kernel
theorem d_Model_round_51 : decode b_Model_round 51 = .ok (.iaload, 1) := by decide +kernel
theorem d_Model_round_52 : decode b_Model_round 52 = .ok (.iconst 2, 1) := by decide +kernel
theorem d_Model_round_53 : decode b_Model_round 53 = .ok (.irem, 1) := by decide +kernel
theorem d_Model_round_54 : decode b_Model_round 54 = .ok (.iconst 1, 1) := by decide +kernel
theorem d_Model_round_55 : decode b_Model_round 55 = .ok (.if_icmp .ne 7, 3) := by decide +kernel
theorem d_Model_round_58 : decode b_Model_round 58 = .ok (.iconst 1, 1) := by decide +kernel
theorem d_Model_round_59 : decode b_Model_round 59 = .ok (.goto 4, 3) := by decide +kernel
theorem d_Model_round_62 : decode b_Model_round 62 = .ok (.iconst 0, 1) := by decide +kernel
theorem d_Model_round_63 : decode b_Model_round 63 = .ok (.istore 5, 2) := by decide +kernel
theorem d_Model_round_65 : decode b_Model_round 65 = .ok (.iload 4, 2) := by decide +kernel
theorem d_Model_round_67 : decode b_Model_round 67 = .ok (.ifCond .le 19, 3) := by decide +kernel
theorem d_Model_round_70 : decode b_Model_round 70 = .ok (.aload_n 0, 1) := by decide +kernel
theorem d_Model_round_71 : decode b_Model_round 71 = .ok (.iload 4, 2) := by decide +kernel
theorem d_Model_round_73 : decode b_Model_round 73 = .ok (.iload_n 2, 1) := by decide +kernel
theorem d_Model_round_74 : decode b_Model_round 74 = .ok (.iload 5, 2) := by decide +kernel
theorem d_Model_round_76 : decode b_Model_round 76 = .ok (.invokevirtual 126, 3) := by decide +kernel
theorem d_Model_round_79 : decode b_Model_round 79 = .ok (.ifCond .eq 7, 3) := by decide +kernel
theorem d_Model_round_82 : decode b_Model_round 82 = .ok (.iconst 1, 1) := by decide +kernel
theorem d_Model_round_83 : decode b_Model_round 83 = .ok (.goto 4, 3) := by decide +kernel
theorem d_Model_round_86 : decode b_Model_round 86 = .ok (.iconst 0, 1) := by decide +kernel
theorem d_Model_round_87 : decode b_Model_round 87 = .ok (.istore 6, 2) := by decide +kernel
theorem d_Model_round_89 : decode b_Model_round 89 = .ok (.aload_n 0, 1) := by decide +kernel
theorem d_Model_round_90 : decode b_Model_round 90 = .ok (.iload_n 3, 1) := by decide +kernel
theorem d_Model_round_91 : decode b_Model_round 91 = .ok (.ifCond .ge 7, 3) := by decide +kernel
theorem d_Model_round_94 : decode b_Model_round 94 = .ok (.iconst 0, 1) := by decide +kernel
theorem d_Model_round_95 : decode b_Model_round 95 = .ok (.goto 4, 3) := by decide +kernel
theorem d_Model_round_98 : decode b_Model_round 98 = .ok (.iload_n 3, 1) := by decide +kernel
theorem d_Model_round_99 : decode b_Model_round 99 = .ok (.putfield 112, 3) := by decide +kernel
theorem d_Model_round_102 : decode b_Model_round 102 = .ok (.iload 6, 2) := by decide +kernel
theorem d_Model_round_104 : decode b_Model_round 104 = .ok (.ifCond .ne 5, 3) := by decide +kernel
theorem d_Model_round_107 : decode b_Model_round 107 = .ok (.iconst 1, 1) := by decide +kernel
theorem d_Model_round_108 : decode b_Model_round 108 = .ok (.ireturn, 1) := by decide +kernel
theorem d_Model_round_109 : decode b_Model_round 109 = .ok (.aload_n 0, 1) := by decide +kernel
theorem d_Model_round_110 : decode b_Model_round 110 = .ok (.getfield 112, 3) := by decide +kernel
theorem d_Model_round_113 : decode b_Model_round 113 = .ok (.iconst 1, 1) := by decide +kernel
theorem d_Model_round_114 : decode b_Model_round 114 = .ok (.isub, 1) := by decide +kernel
theorem d_Model_round_115 : decode b_Model_round 115 = .ok (.istore 7, 2) := by decide +kernel
theorem d_Model_round_117 : decode b_Model_round 117 = .ok (.iload 7, 2) := by decide +kernel
theorem d_Model_round_119 : decode b_Model_round 119 = .ok (.ifCond .lt 32, 3) := by decide +kernel
theorem d_Model_round_122 : decode b_Model_round 122 = .ok (.aload_n 0, 1) := by decide +kernel
theorem d_Model_round_123 : decode b_Model_round 123 = .ok (.getfield 30, 3) := by decide +kernel
theorem d_Model_round_126 : decode b_Model_round 126 = .ok (.iload 7, 2) := by decide +kernel
theorem d_Model_round_128 : decode b_Model_round 128 = .ok (.iaload, 1) := by decide +kernel
theorem d_Model_round_129 : decode b_Model_round 129 = .ok (.bipush 9, 2) := by decide +kernel
theorem d_Model_round_131 : decode b_Model_round 131 = .ok (.if_icmp .ne 20, 3) := by decide +kernel
theorem d_Model_round_134 : decode b_Model_round 134 = .ok (.aload_n 0, 1) := by decide +kernel
theorem d_Model_round_135 : decode b_Model_round 135 = .ok (.getfield 30, 3) := by decide +kernel
theorem d_Model_round_138 : decode b_Model_round 138 = .ok (.iload 7, 2) := by decide +kernel
theorem d_Model_round_140 : decode b_Model_round 140 = .ok (.iconst 0, 1) := by decide +kernel
theorem d_Model_round_141 : decode b_Model_round 141 = .ok (.iastore, 1) := by decide +kernel
theorem d_Model_round_142 : decode b_Model_round 142 = .ok (.iload 7, 2) := by decide +kernel
theorem d_Model_round_144 : decode b_Model_round 144 = .ok (.iconst 1, 1) := by decide +kernel
theorem d_Model_round_145 : decode b_Model_round 145 = .ok (.isub, 1) := by decide +kernel
theorem d_Model_round_146 : decode b_Model_round 146 = .ok (.istore 7, 2) := by decide +kernel
theorem d_Model_round_148 : decode b_Model_round 148 = .ok (.goto (-31), 3) := by decide +kernel
theorem d_Model_round_151 : decode b_Model_round 151 = .ok (.iload 7, 2) := by decide +kernel
theorem d_Model_round_153 : decode b_Model_round 153 = .ok (.ifCond .lt 21, 3) := by decide +kernel
theorem d_Model_round_156 : decode b_Model_round 156 = .ok (.aload_n 0, 1) := by decide +kernel
theorem d_Model_round_157 : decode b_Model_round 157 = .ok (.getfield 30, 3) := by decide +kernel
theorem d_Model_round_160 : decode b_Model_round 160 = .ok (.iload 7, 2) := by decide +kernel
theorem d_Model_round_162 : decode b_Model_round 162 = .ok (.aload_n 0, 1) := by decide +kernel
theorem d_Model_round_163 : decode b_Model_round 163 = .ok (.getfield 30, 3) := by decide +kernel
theorem d_Model_round_166 : decode b_Model_round 166 = .ok (.iload 7, 2) := by decide +kernel
theorem d_Model_round_168 : decode b_Model_round 168 = .ok (.iaload, 1) := by decide +kernel
theorem d_Model_round_169 : decode b_Model_round 169 = .ok (.iconst 1, 1) := by decide +kernel
theorem d_Model_round_170 : decode b_Model_round 170 = .ok (.iadd, 1) := by decide +kernel
theorem d_Model_round_171 : decode b_Model_round 171 = .ok (.iastore, 1) := by decide +kernel
theorem d_Model_round_172 : decode b_Model_round 172 = .ok (.iconst 1, 1) := by decide +kernel
theorem d_Model_round_173 : decode b_Model_round 173 = .ok (.ireturn, 1) := by decide +kernel
theorem d_Model_round_174 : decode b_Model_round 174 = .ok (.aload_n 0, 1) := by decide +kernel
theorem d_Model_round_175 : decode b_Model_round 175 = .ok (.iload_n 3, 1) := by decide +kernel
theorem d_Model_round_176 : decode b_Model_round 176 = .ok (.ifCond .ge 9, 3) := by decide +kernel
theorem d_Model_round_179 : decode b_Model_round 179 = .ok (.iconst 1, 1) := by decide +kernel
theorem d_Model_round_180 : decode b_Model_round 180 = .ok (.iload_n 1, 1) := by decide +kernel
theorem d_Model_round_181 : decode b_Model_round 181 = .ok (.isub, 1) := by decide +kernel
theorem d_Model_round_182 : decode b_Model_round 182 = .ok (.goto 9, 3) := by decide +kernel
theorem d_Model_round_185 : decode b_Model_round 185 = .ok (.aload_n 0, 1) := by decide +kernel
theorem d_Model_round_186 : decode b_Model_round 186 = .ok (.getfield 119, 3) := by decide +kernel
theorem d_Model_round_189 : decode b_Model_round 189 = .ok (.iconst 1, 1) := by decide +kernel
theorem d_Model_round_190 : decode b_Model_round 190 = .ok (.iadd, 1) := by decide +kernel
theorem d_Model_round_191 : decode b_Model_round 191 = .ok (.putfield 119, 3) := by decide +kernel
theorem d_Model_round_194 : decode b_Model_round 194 = .ok (.aload_n 0, 1) := by decide +kernel
theorem d_Model_round_195 : decode b_Model_round 195 = .ok (.getfield 30, 3) := by decide +kernel
theorem d_Model_round_198 : decode b_Model_round 198 = .ok (.iconst 0, 1) := by decide +kernel
theorem d_Model_round_199 : decode b_Model_round 199 = .ok (.iconst 1, 1) := by decide +kernel
theorem d_Model_round_200 : decode b_Model_round 200 = .ok (.iastore, 1) := by decide +kernel
theorem d_Model_round_201 : decode b_Model_round 201 = .ok (.iconst 1, 1) := by decide +kernel
theorem d_Model_round_202 : decode b_Model_round 202 = .ok (.istore 8, 2) := by decide +kernel
theorem d_Model_round_204 : decode b_Model_round 204 = .ok (.iload 8, 2) := by decide +kernel
theorem d_Model_round_206 : decode b_Model_round 206 = .ok (.aload_n 0, 1) := by decide +kernel
theorem d_Model_round_207 : decode b_Model_round 207 = .ok (.getfield 112, 3) := by decide +kernel
theorem d_Model_round_210 : decode b_Model_round 210 = .ok (.if_icmp .gt 17, 3) := by decide +kernel
theorem d_Model_round_213 : decode b_Model_round 213 = .ok (.aload_n 0, 1) := by decide +kernel
theorem d_Model_round_214 : decode b_Model_round 214 = .ok (.getfield 30, 3) := by decide +kernel
theorem d_Model_round_217 : decode b_Model_round 217 = .ok (.iload 8, 2) := by decide +kernel
theorem d_Model_round_219 : decode b_Model_round 219 = .ok (.iconst 0, 1) := by decide +kernel
theorem d_Model_round_220 : decode b_Model_round 220 = .ok (.iastore, 1) := by decide +kernel
theorem d_Model_round_221 : decode b_Model_round 221 = .ok (.iinc 8 1, 3) := by decide +kernel
theorem d_Model_round_224 : decode b_Model_round 224 = .ok (.goto (-20), 3) := by decide +kernel
theorem d_Model_round_227 : decode b_Model_round 227 = .ok (.aload_n 0, 1) := by decide +kernel
theorem d_Model_round_228 : decode b_Model_round 228 = .ok (.aload_n 0, 1) := by decide +kernel
theorem d_Model_round_229 : decode b_Model_round 229 = .ok (.getfield 112, 3) := by decide +kernel
theorem d_Model_round_232 : decode b_Model_round 232 = .ok (.iconst 1, 1) := by decide +kernel
theorem d_Model_round_233 : decode b_Model_round 233 = .ok (.iadd, 1) := by decide +kernel
theorem d_Model_round_234 : decode b_Model_round 234 = .ok (.putfield 112, 3) := by decide +kernel
theorem d_Model_round_237 : decode b_Model_round 237 = .ok (.iconst 1, 1) := by decide +kernel
theorem d_Model_round_238 : decode b_Model_round 238 = .ok (.ireturn, 1) := by decide +kernel
theorem d_Model_placed_0 : decode b_Model_placed 0 = .ok (.aload_n 0, 1) := by decide +kernel
theorem d_Model_placed_1 : decode b_Model_placed 1 = .ok (.getfield 119, 3) := by decide +kernel
theorem d_Model_placed_4 : decode b_Model_placed 4 = .ok (.iload_n 1, 1) := by decide +kernel
theorem d_Model_placed_5 : decode b_Model_placed 5 = .ok (.iadd, 1) := by decide +kernel
theorem d_Model_placed_6 : decode b_Model_placed 6 = .ok (.istore_n 2, 1) := by decide +kernel
theorem d_Model_placed_7 : decode b_Model_placed 7 = .ok (.iload_n 2, 1) := by decide +kernel
theorem d_Model_placed_8 : decode b_Model_placed 8 = .ok (.ifCond .lt 11, 3) := by decide +kernel
theorem d_Model_placed_11 : decode b_Model_placed 11 = .ok (.iload_n 2, 1) := by decide +kernel
theorem d_Model_placed_12 : decode b_Model_placed 12 = .ok (.aload_n 0, 1) := by decide +kernel
theorem d_Model_placed_13 : decode b_Model_placed 13 = .ok (.getfield 112, 3) := by decide +kernel
theorem d_Model_placed_16 : decode b_Model_placed 16 = .ok (.if_icmp .lt 7, 3) := by decide +kernel
theorem d_Model_placed_19 : decode b_Model_placed 19 = .ok (.iconst 0, 1) := by decide +kernel
theorem d_Model_placed_20 : decode b_Model_placed 20 = .ok (.goto 9, 3) := by decide +kernel
theorem d_Model_placed_23 : decode b_Model_placed 23 = .ok (.aload_n 0, 1) := by decide +kernel
theorem d_Model_placed_24 : decode b_Model_placed 24 = .ok (.getfield 30, 3) := by decide +kernel
theorem d_Model_placed_27 : decode b_Model_placed 27 = .ok (.iload_n 2, 1) := by decide +kernel
theorem d_Model_placed_28 : decode b_Model_placed 28 = .ok (.iaload, 1) := by decide +kernel
theorem d_Model_placed_29 : decode b_Model_placed 29 = .ok (.ireturn, 1) := by decide +kernel
theorem d_Model_writeWhole_0 : decode b_Model_writeWhole 0 = .ok (.aload_n 0, 1) := by decide +kernel
theorem d_Model_writeWhole_1 : decode b_Model_writeWhole 1 = .ok (.getfield 112, 3) := by decide +kernel
theorem d_Model_writeWhole_4 : decode b_Model_writeWhole 4 = .ok (.ifCond .le 17, 3) := by decide +kernel
theorem d_Model_writeWhole_7 : decode b_Model_writeWhole 7 = .ok (.aload_n 0, 1) := by decide +kernel
theorem d_Model_writeWhole_8 : decode b_Model_writeWhole 8 = .ok (.getfield 119, 3) := by decide +kernel
theorem d_Model_writeWhole_11 : decode b_Model_writeWhole 11 = .ok (.ifCond .le 10, 3) := by decide +kernel
theorem d_Model_writeWhole_14 : decode b_Model_writeWhole 14 = .ok (.aload_n 0, 1) := by decide +kernel
theorem d_Model_writeWhole_15 : decode b_Model_writeWhole 15 = .ok (.getfield 119, 3) := by decide +kernel
theorem d_Model_writeWhole_18 : decode b_Model_writeWhole 18 = .ok (.goto 4, 3) := by decide +kernel
theorem d_Model_writeWhole_21 : decode b_Model_writeWhole 21 = .ok (.iconst 0, 1) := by decide +kernel
theorem d_Model_writeWhole_22 : decode b_Model_writeWhole 22 = .ok (.istore_n 2, 1) := by decide +kernel
theorem d_Model_writeWhole_23 : decode b_Model_writeWhole 23 = .ok (.iload_n 2, 1) := by decide +kernel
theorem d_Model_writeWhole_24 : decode b_Model_writeWhole 24 = .ok (.aload_n 0, 1) := by decide +kernel
theorem d_Model_writeWhole_25 : decode b_Model_writeWhole 25 = .ok (.getfield 27, 3) := by decide +kernel
theorem d_Model_writeWhole_28 : decode b_Model_writeWhole 28 = .ok (.iconst 0, 1) := by decide +kernel
theorem d_Model_writeWhole_29 : decode b_Model_writeWhole 29 = .ok (.iaload, 1) := by decide +kernel
theorem d_Model_writeWhole_30 : decode b_Model_writeWhole 30 = .ok (.if_icmp .ge 12, 3) := by decide +kernel
theorem d_Model_writeWhole_33 : decode b_Model_writeWhole 33 = .ok (.aload_n 0, 1) := by decide +kernel
theorem d_Model_writeWhole_34 : decode b_Model_writeWhole 34 = .ok (.getfield 27, 3) := by decide +kernel
theorem d_Model_writeWhole_37 : decode b_Model_writeWhole 37 = .ok (.iconst 0, 1) := by decide +kernel
theorem d_Model_writeWhole_38 : decode b_Model_writeWhole 38 = .ok (.iaload, 1) := by decide +kernel
theorem d_Model_writeWhole_39 : decode b_Model_writeWhole 39 = .ok (.goto 4, 3) := by decide +kernel
theorem d_Model_writeWhole_42 : decode b_Model_writeWhole 42 = .ok (.iload_n 2, 1) := by decide +kernel
theorem d_Model_writeWhole_43 : decode b_Model_writeWhole 43 = .ok (.istore_n 3, 1) := by decide +kernel
theorem d_Model_writeWhole_44 : decode b_Model_writeWhole 44 = .ok (.iload_n 3, 1) := by decide +kernel
theorem d_Model_writeWhole_45 : decode b_Model_writeWhole 45 = .ok (.ifCond .ne 11, 3) := by decide +kernel
theorem d_Model_writeWhole_48 : decode b_Model_writeWhole 48 = .ok (.iload_n 1, 1) := by decide +kernel
theorem d_Model_writeWhole_49 : decode b_Model_writeWhole 49 = .ok (.ifCond .ne 7, 3) := by decide +kernel
theorem d_Model_writeWhole_52 : decode b_Model_writeWhole 52 = .ok (.iconst 1, 1) := by decide +kernel
theorem d_Model_writeWhole_53 : decode b_Model_writeWhole 53 = .ok (.goto 4, 3) := by decide +kernel
theorem d_Model_writeWhole_56 : decode b_Model_writeWhole 56 = .ok (.iload_n 3, 1) := by decide +kernel
theorem d_Model_writeWhole_57 : decode b_Model_writeWhole 57 = .ok (.istore_n 3, 1) := by decide +kernel
theorem d_Model_writeWhole_58 : decode b_Model_writeWhole 58 = .ok (.aload_n 0, 1) := by decide +kernel
theorem d_Model_writeWhole_59 : decode b_Model_writeWhole 59 = .ok (.getfield 33, 3) := by decide +kernel
theorem d_Model_writeWhole_62 : decode b_Model_writeWhole 62 = .ok (.iconst 0, 1) := by decide +kernel
theorem d_Model_writeWhole_63 : decode b_Model_writeWhole 63 = .ok (.aload_n 0, 1) := by decide +kernel
theorem d_Model_writeWhole_64 : decode b_Model_writeWhole 64 = .ok (.getfield 39, 3) := by decide +kernel
theorem d_Model_writeWhole_67 : decode b_Model_writeWhole 67 = .ok (.iastore, 1) := by decide +kernel
theorem d_Model_writeWhole_68 : decode b_Model_writeWhole 68 = .ok (.iload_n 3, 1) := by decide +kernel
theorem d_Model_writeWhole_69 : decode b_Model_writeWhole 69 = .ok (.istore 4, 2) := by decide +kernel
theorem d_Model_writeWhole_71 : decode b_Model_writeWhole 71 = .ok (.iload 4, 2) := by decide +kernel
theorem d_Model_writeWhole_73 : decode b_Model_writeWhole 73 = .ok (.ifCond .le 71, 3) := by decide +kernel
theorem d_Model_writeWhole_76 : decode b_Model_writeWhole 76 = .ok (.aload_n 0, 1) := by decide +kernel
theorem d_Model_writeWhole_77 : decode b_Model_writeWhole 77 = .ok (.getfield 27, 3) := by decide +kernel
theorem d_Model_writeWhole_80 : decode b_Model_writeWhole 80 = .ok (.iconst 3, 1) := by decide +kernel
theorem d_Model_writeWhole_81 : decode b_Model_writeWhole 81 = .ok (.iaload, 1) := by decide +kernel
theorem d_Model_writeWhole_82 : decode b_Model_writeWhole 82 = .ok (.ifCond .le 27, 3) := by decide +kernel
theorem d_Model_writeWhole_85 : decode b_Model_writeWhole 85 = .ok (.iload 4, 2) := by decide +kernel
theorem d_Model_writeWhole_87 : decode b_Model_writeWhole 87 = .ok (.iload_n 3, 1) := by decide +kernel
theorem d_Model_writeWhole_88 : decode b_Model_writeWhole 88 = .ok (.if_icmp .ge 21, 3) := by decide +kernel
theorem d_Model_writeWhole_91 : decode b_Model_writeWhole 91 = .ok (.iload 4, 2) := by decide +kernel
theorem d_Model_writeWhole_93 : decode b_Model_writeWhole 93 = .ok (.aload_n 0, 1) := by decide +kernel
theorem d_Model_writeWhole_94 : decode b_Model_writeWhole 94 = .ok (.getfield 27, 3) := by decide +kernel
theorem d_Model_writeWhole_97 : decode b_Model_writeWhole 97 = .ok (.iconst 3, 1) := by decide +kernel
theorem d_Model_writeWhole_98 : decode b_Model_writeWhole 98 = .ok (.iaload, 1) := by decide +kernel
theorem d_Model_writeWhole_99 : decode b_Model_writeWhole 99 = .ok (.irem, 1) := by decide +kernel
theorem d_Model_writeWhole_100 : decode b_Model_writeWhole 100 = .ok (.ifCond .ne 9, 3) := by decide +kernel
theorem d_Model_writeWhole_103 : decode b_Model_writeWhole 103 = .ok (.aload_n 0, 1) := by decide +kernel
theorem d_Model_writeWhole_104 : decode b_Model_writeWhole 104 = .ok (.bipush 44, 2) := by decide +kernel
theorem d_Model_writeWhole_106 : decode b_Model_writeWhole 106 = .ok (.invokevirtual 109, 3) := by decide +kernel
theorem d_Model_writeWhole_109 : decode b_Model_writeWhole 109 = .ok (.aload_n 0, 1) := by decide +kernel
theorem d_Model_writeWhole_110 : decode b_Model_writeWhole 110 = .ok (.getfield 112, 3) := by decide +kernel
theorem d_Model_writeWhole_113 : decode b_Model_writeWhole 113 = .ok (.ifCond .le 13, 3) := by decide +kernel
theorem d_Model_writeWhole_116 : decode b_Model_writeWhole 116 = .ok (.aload_n 0, 1) := by decide +kernel
theorem d_Model_writeWhole_117 : decode b_Model_writeWhole 117 = .ok (.iload 4, 2) := by decide +kernel
theorem d_Model_writeWhole_119 : decode b_Model_writeWhole 119 = .ok (.ineg, 1) := by decide +kernel
theorem d_Model_writeWhole_120 : decode b_Model_writeWhole 120 = .ok (.invokevirtual 130, 3) := by decide +kernel
theorem d_Model_writeWhole_123 : decode b_Model_writeWhole 123 = .ok (.goto 4, 3) := by decide +kernel
theorem d_Model_writeWhole_126 : decode b_Model_writeWhole 126 = .ok (.iconst 0, 1) := by decide +kernel
theorem d_Model_writeWhole_127 : decode b_Model_writeWhole 127 = .ok (.istore 5, 2) := by decide +kernel
theorem d_Model_writeWhole_129 : decode b_Model_writeWhole 129 = .ok (.aload_n 0, 1) := by decide +kernel
theorem d_Model_writeWhole_130 : decode b_Model_writeWhole 130 = .ok (.bipush 48, 2) := by decide +kernel
theorem d_Model_writeWhole_132 : decode b_Model_writeWhole 132 = .ok (.iload 5, 2) := by decide +kernel
theorem d_Model_writeWhole_134 : decode b_Model_writeWhole 134 = .ok (.iadd, 1) := by decide +kernel
theorem d_Model_writeWhole_135 : decode b_Model_writeWhole 135 = .ok (.invokevirtual 109, 3) := by decide +kernel
theorem d_Model_writeWhole_138 : decode b_Model_writeWhole 138 = .ok (.iinc 4 (-1), 3) := by decide +kernel
theorem d_Model_writeWhole_141 : decode b_Model_writeWhole 141 = .ok (.goto (-70), 3) := by decide +kernel
theorem d_Model_writeWhole_144 : decode b_Model_writeWhole 144 = .ok (.aload_n 0, 1) := by decide +kernel
theorem d_Model_writeWhole_145 : decode b_Model_writeWhole 145 = .ok (.getfield 33, 3) := by decide +kernel
theorem d_Model_writeWhole_148 : decode b_Model_writeWhole 148 = .ok (.iconst 1, 1) := by decide +kernel
theorem d_Model_writeWhole_149 : decode b_Model_writeWhole 149 = .ok (.aload_n 0, 1) := by decide +kernel
theorem d_Model_writeWhole_150 : decode b_Model_writeWhole 150 = .ok (.getfield 39, 3) := by decide +kernel
theorem d_Model_writeWhole_153 : decode b_Model_writeWhole 153 = .ok (.iastore, 1) := by decide +kernel
theorem d_Model_writeWhole_154 : decode b_Model_writeWhole 154 = .ok (.return_, 1) := by decide +kernel
theorem d_Model_fractions_0 : decode b_Model_fractions 0 = .ok (.iconst 0, 1) := by decide +kernel
theorem d_Model_fractions_1 : decode b_Model_fractions 1 = .ok (.istore_n 1, 1) := by decide +kernel
theorem d_Model_fractions_2 : decode b_Model_fractions 2 = .ok (.iconst 0, 1) := by decide +kernel
theorem d_Model_fractions_3 : decode b_Model_fractions 3 = .ok (.istore_n 2, 1) := by decide +kernel
theorem d_Model_fractions_4 : decode b_Model_fractions 4 = .ok (.iload_n 2, 1) := by decide +kernel
theorem d_Model_fractions_5 : decode b_Model_fractions 5 = .ok (.bipush 9, 2) := by decide +kernel
theorem d_Model_fractions_7 : decode b_Model_fractions 7 = .ok (.if_icmp .ge 32, 3) := by decide +kernel
theorem d_Model_fractions_10 : decode b_Model_fractions 10 = .ok (.aload_n 0, 1) := by decide +kernel
theorem d_Model_fractions_11 : decode b_Model_fractions 11 = .ok (.getfield 112, 3) := by decide +kernel
theorem d_Model_fractions_14 : decode b_Model_fractions 14 = .ok (.ifCond .le 17, 3) := by decide +kernel
theorem d_Model_fractions_17 : decode b_Model_fractions 17 = .ok (.aload_n 0, 1) := by decide +kernel
theorem d_Model_fractions_18 : decode b_Model_fractions 18 = .ok (.iload_n 2, 1) := by decide +kernel
theorem d_Model_fractions_19 : decode b_Model_fractions 19 = .ok (.invokevirtual 130, 3) := by decide +kernel
theorem d_Model_fractions_22 : decode b_Model_fractions 22 = .ok (.ifCond .le 9, 3) := by decide +kernel
theorem d_Model_fractions_25 : decode b_Model_fractions 25 = .ok (.iload_n 2, 1) := by decide +kernel
theorem d_Model_fractions_26 : decode b_Model_fractions 26 = .ok (.iconst 1, 1) := by decide +kernel
theorem d_Model_fractions_27 : decode b_Model_fractions 27 = .ok (.iadd, 1) := by decide +kernel
theorem d_Model_fractions_28 : decode b_Model_fractions 28 = .ok (.goto 4, 3) := by decide +kernel
theorem d_Model_fractions_31 : decode b_Model_fractions 31 = .ok (.iload_n 1, 1) := by decide +kernel
theorem d_Model_fractions_32 : decode b_Model_fractions 32 = .ok (.istore_n 1, 1) := by decide +kernel
theorem d_Model_fractions_33 : decode b_Model_fractions 33 = .ok (.iinc 2 1, 3) := by decide +kernel
theorem d_Model_fractions_36 : decode b_Model_fractions 36 = .ok (.goto (-32), 3) := by decide +kernel
theorem d_Model_fractions_39 : decode b_Model_fractions 39 = .ok (.iload_n 1, 1) := by decide +kernel
theorem d_Model_fractions_40 : decode b_Model_fractions 40 = .ok (.aload_n 0, 1) := by decide +kernel
theorem d_Model_fractions_41 : decode b_Model_fractions 41 = .ok (.getfield 27, 3) := by decide +kernel
theorem d_Model_fractions_44 : decode b_Model_fractions 44 = .ok (.iconst 1, 1) := by decide +kernel
theorem d_Model_fractions_45 : decode b_Model_fractions 45 = .ok (.iaload, 1) := by decide +kernel
theorem d_Model_fractions_46 : decode b_Model_fractions 46 = .ok (.if_icmp .ge 12, 3) := by decide +kernel
theorem d_Model_fractions_49 : decode b_Model_fractions 49 = .ok (.aload_n 0, 1) := by decide +kernel
theorem d_Model_fractions_50 : decode b_Model_fractions 50 = .ok (.getfield 27, 3) := by decide +kernel
theorem d_Model_fractions_53 : decode b_Model_fractions 53 = .ok (.iconst 1, 1) := by decide +kernel
theorem d_Model_fractions_54 : decode b_Model_fractions 54 = .ok (.iaload, 1) := by decide +kernel
theorem d_Model_fractions_55 : decode b_Model_fractions 55 = .ok (.goto 4, 3) := by decide +kernel
theorem d_Model_fractions_58 : decode b_Model_fractions 58 = .ok (.iload_n 1, 1) := by decide +kernel
theorem d_Model_fractions_59 : decode b_Model_fractions 59 = .ok (.ireturn, 1) := by decide +kernel
end
section
theorem d_Model_writeFraction_0 : decode b_Model_writeFraction 0 = .ok (.iload_n 1, 1) := by decide +kernel
theorem d_Model_writeFraction_1 : decode b_Model_writeFraction 1 = .ok (.ifCond .le 9, 3) := by decide +kernel
theorem d_Model_writeFraction_4 : decode b_Model_writeFraction 4 = .ok (.aload_n 0, 1) := by decide +kernel
theorem d_Model_writeFraction_5 : decode b_Model_writeFraction 5 = .ok (.bipush 46, 2) := by decide +kernel
theorem d_Model_writeFraction_7 : decode b_Model_writeFraction 7 = .ok (.invokevirtual 109, 3) := by decide +kernel
theorem d_Model_writeFraction_10 : decode b_Model_writeFraction 10 = .ok (.aload_n 0, 1) := by decide +kernel
theorem d_Model_writeFraction_11 : decode b_Model_writeFraction 11 = .ok (.getfield 33, 3) := by decide +kernel
theorem d_Model_writeFraction_14 : decode b_Model_writeFraction 14 = .ok (.iconst 2, 1) := by decide +kernel
theorem d_Model_writeFraction_15 : decode b_Model_writeFraction 15 = .ok (.aload_n 0, 1) := by decide +kernel
theorem d_Model_writeFraction_16 : decode b_Model_writeFraction 16 = .ok (.getfield 39, 3) := by decide +kernel
theorem d_Model_writeFraction_19 : decode b_Model_writeFraction 19 = .ok (.iastore, 1) := by decide +kernel
theorem d_Model_writeFraction_20 : decode b_Model_writeFraction 20 = .ok (.iconst 0, 1) := by decide +kernel
theorem d_Model_writeFraction_21 : decode b_Model_writeFraction 21 = .ok (.istore_n 2, 1) := by decide +kernel
theorem d_Model_writeFraction_22 : decode b_Model_writeFraction 22 = .ok (.iload_n 2, 1) := by decide +kernel
theorem d_Model_writeFraction_23 : decode b_Model_writeFraction 23 = .ok (.iload_n 1, 1) := by decide +kernel
theorem d_Model_writeFraction_24 : decode b_Model_writeFraction 24 = .ok (.if_icmp .ge 34, 3) := by decide +kernel
theorem d_Model_writeFraction_27 : decode b_Model_writeFraction 27 = .ok (.aload_n 0, 1) := by decide +kernel
theorem d_Model_writeFraction_28 : decode b_Model_writeFraction 28 = .ok (.getfield 112, 3) := by decide +kernel
theorem d_Model_writeFraction_31 : decode b_Model_writeFraction 31 = .ok (.ifCond .le 11, 3) := by decide +kernel
theorem d_Model_writeFraction_34 : decode b_Model_writeFraction 34 = .ok (.aload_n 0, 1) := by decide +kernel
theorem d_Model_writeFraction_35 : decode b_Model_writeFraction 35 = .ok (.iload_n 2, 1) := by decide +kernel
theorem d_Model_writeFraction_36 : decode b_Model_writeFraction 36 = .ok (.invokevirtual 130, 3) := by decide +kernel
theorem d_Model_writeFraction_39 : decode b_Model_writeFraction 39 = .ok (.goto 4, 3) := by decide +kernel
theorem d_Model_writeFraction_42 : decode b_Model_writeFraction 42 = .ok (.iconst 0, 1) := by decide +kernel
theorem d_Model_writeFraction_43 : decode b_Model_writeFraction 43 = .ok (.istore_n 3, 1) := by decide +kernel
theorem d_Model_writeFraction_44 : decode b_Model_writeFraction 44 = .ok (.aload_n 0, 1) := by decide +kernel
theorem d_Model_writeFraction_45 : decode b_Model_writeFraction 45 = .ok (.bipush 48, 2) := by decide +kernel
theorem d_Model_writeFraction_47 : decode b_Model_writeFraction 47 = .ok (.iload_n 3, 1) := by decide +kernel
theorem d_Model_writeFraction_48 : decode b_Model_writeFraction 48 = .ok (.iadd, 1) := by decide +kernel
theorem d_Model_writeFraction_49 : decode b_Model_writeFraction 49 = .ok (.invokevirtual 109, 3) := by decide +kernel
theorem d_Model_writeFraction_52 : decode b_Model_writeFraction 52 = .ok (.iinc 2 1, 3) := by decide +kernel
theorem d_Model_writeFraction_55 : decode b_Model_writeFraction 55 = .ok (.goto (-33), 3) := by decide +kernel
theorem d_Model_writeFraction_58 : decode b_Model_writeFraction 58 = .ok (.aload_n 0, 1) := by decide +kernel
theorem d_Model_writeFraction_59 : decode b_Model_writeFraction 59 = .ok (.getfield 33, 3) := by decide +kernel
theorem d_Model_writeFraction_62 : decode b_Model_writeFraction 62 = .ok (.iconst 3, 1) := by decide +kernel
theorem d_Model_writeFraction_63 : decode b_Model_writeFraction 63 = .ok (.aload_n 0, 1) := by decide +kernel
theorem d_Model_writeFraction_64 : decode b_Model_writeFraction 64 = .ok (.getfield 39, 3) := by decide +kernel
theorem d_Model_writeFraction_67 : decode b_Model_writeFraction 67 = .ok (.iastore, 1) := by decide +kernel
theorem d_Model_writeFraction_68 : decode b_Model_writeFraction 68 = .ok (.return_, 1) := by decide +kernel
theorem d_Model_writeExponent_0 : decode b_Model_writeExponent 0 = .ok (.aload_n 0, 1) := by decide +kernel
theorem d_Model_writeExponent_1 : decode b_Model_writeExponent 1 = .ok (.getfield 27, 3) := by decide +kernel
theorem d_Model_writeExponent_4 : decode b_Model_writeExponent 4 = .ok (.iconst 4, 1) := by decide +kernel
theorem d_Model_writeExponent_5 : decode b_Model_writeExponent 5 = .ok (.iaload, 1) := by decide +kernel
theorem d_Model_writeExponent_6 : decode b_Model_writeExponent 6 = .ok (.ifCond .le 9, 3) := by decide +kernel
theorem d_Model_writeExponent_9 : decode b_Model_writeExponent 9 = .ok (.aload_n 0, 1) := by decide +kernel
theorem d_Model_writeExponent_10 : decode b_Model_writeExponent 10 = .ok (.bipush 69, 2) := by decide +kernel
theorem d_Model_writeExponent_12 : decode b_Model_writeExponent 12 = .ok (.invokevirtual 109, 3) := by decide +kernel
theorem d_Model_writeExponent_15 : decode b_Model_writeExponent 15 = .ok (.aload_n 0, 1) := by decide +kernel
theorem d_Model_writeExponent_16 : decode b_Model_writeExponent 16 = .ok (.getfield 33, 3) := by decide +kernel
theorem d_Model_writeExponent_19 : decode b_Model_writeExponent 19 = .ok (.iconst 4, 1) := by decide +kernel
theorem d_Model_writeExponent_20 : decode b_Model_writeExponent 20 = .ok (.aload_n 0, 1) := by decide +kernel
theorem d_Model_writeExponent_21 : decode b_Model_writeExponent 21 = .ok (.getfield 39, 3) := by decide +kernel
theorem d_Model_writeExponent_24 : decode b_Model_writeExponent 24 = .ok (.iastore, 1) := by decide +kernel
theorem d_Model_writeExponent_25 : decode b_Model_writeExponent 25 = .ok (.aload_n 0, 1) := by decide +kernel
theorem d_Model_writeExponent_26 : decode b_Model_writeExponent 26 = .ok (.getfield 27, 3) := by decide +kernel
theorem d_Model_writeExponent_29 : decode b_Model_writeExponent 29 = .ok (.iconst 4, 1) := by decide +kernel
theorem d_Model_writeExponent_30 : decode b_Model_writeExponent 30 = .ok (.iaload, 1) := by decide +kernel
theorem d_Model_writeExponent_31 : decode b_Model_writeExponent 31 = .ok (.ifCond .le 92, 3) := by decide +kernel
theorem d_Model_writeExponent_34 : decode b_Model_writeExponent 34 = .ok (.iload_n 1, 1) := by decide +kernel
theorem d_Model_writeExponent_35 : decode b_Model_writeExponent 35 = .ok (.ifCond .ge 8, 3) := by decide +kernel
theorem d_Model_writeExponent_38 : decode b_Model_writeExponent 38 = .ok (.iload_n 1, 1) := by decide +kernel
theorem d_Model_writeExponent_39 : decode b_Model_writeExponent 39 = .ok (.ineg, 1) := by decide +kernel
theorem d_Model_writeExponent_40 : decode b_Model_writeExponent 40 = .ok (.goto 4, 3) := by decide +kernel
theorem d_Model_writeExponent_43 : decode b_Model_writeExponent 43 = .ok (.iload_n 1, 1) := by decide +kernel
theorem d_Model_writeExponent_44 : decode b_Model_writeExponent 44 = .ok (.istore_n 2, 1) := by decide +kernel
theorem d_Model_writeExponent_45 : decode b_Model_writeExponent 45 = .ok (.iload_n 1, 1) := by decide +kernel
theorem d_Model_writeExponent_46 : decode b_Model_writeExponent 46 = .ok (.ifCond .ge 9, 3) := by decide +kernel
theorem d_Model_writeExponent_49 : decode b_Model_writeExponent 49 = .ok (.aload_n 0, 1) := by decide +kernel
theorem d_Model_writeExponent_50 : decode b_Model_writeExponent 50 = .ok (.bipush 45, 2) := by decide +kernel
theorem d_Model_writeExponent_52 : decode b_Model_writeExponent 52 = .ok (.invokevirtual 109, 3) := by decide +kernel
theorem d_Model_writeExponent_55 : decode b_Model_writeExponent 55 = .ok (.aload_n 0, 1) := by decide +kernel
theorem d_Model_writeExponent_56 : decode b_Model_writeExponent 56 = .ok (.getfield 27, 3) := by decide +kernel
theorem d_Model_writeExponent_59 : decode b_Model_writeExponent 59 = .ok (.iconst 4, 1) := by decide +kernel
theorem d_Model_writeExponent_60 : decode b_Model_writeExponent 60 = .ok (.iaload, 1) := by decide +kernel
theorem d_Model_writeExponent_61 : decode b_Model_writeExponent 61 = .ok (.iconst 2, 1) := by decide +kernel
theorem d_Model_writeExponent_62 : decode b_Model_writeExponent 62 = .ok (.if_icmp .gt 9, 3) := by decide +kernel
theorem d_Model_writeExponent_65 : decode b_Model_writeExponent 65 = .ok (.iload_n 2, 1) := by decide +kernel
theorem d_Model_writeExponent_66 : decode b_Model_writeExponent 66 = .ok (.bipush 99, 2) := by decide +kernel
theorem d_Model_writeExponent_68 : decode b_Model_writeExponent 68 = .ok (.if_icmp .le 14, 3) := by decide +kernel
theorem d_Model_writeExponent_71 : decode b_Model_writeExponent 71 = .ok (.aload_n 0, 1) := by decide +kernel
theorem d_Model_writeExponent_72 : decode b_Model_writeExponent 72 = .ok (.bipush 48, 2) := by decide +kernel
theorem d_Model_writeExponent_74 : decode b_Model_writeExponent 74 = .ok (.iload_n 2, 1) := by decide +kernel
theorem d_Model_writeExponent_75 : decode b_Model_writeExponent 75 = .ok (.bipush 100, 2) := by decide +kernel
theorem d_Model_writeExponent_77 : decode b_Model_writeExponent 77 = .ok (.idiv, 1) := by decide +kernel
theorem d_Model_writeExponent_78 : decode b_Model_writeExponent 78 = .ok (.iadd, 1) := by decide +kernel
theorem d_Model_writeExponent_79 : decode b_Model_writeExponent 79 = .ok (.invokevirtual 109, 3) := by decide +kernel
theorem d_Model_writeExponent_82 : decode b_Model_writeExponent 82 = .ok (.aload_n 0, 1) := by decide +kernel
theorem d_Model_writeExponent_83 : decode b_Model_writeExponent 83 = .ok (.getfield 27, 3) := by decide +kernel
theorem d_Model_writeExponent_86 : decode b_Model_writeExponent 86 = .ok (.iconst 4, 1) := by decide +kernel
theorem d_Model_writeExponent_87 : decode b_Model_writeExponent 87 = .ok (.iaload, 1) := by decide +kernel
theorem d_Model_writeExponent_88 : decode b_Model_writeExponent 88 = .ok (.iconst 1, 1) := by decide +kernel
theorem d_Model_writeExponent_89 : decode b_Model_writeExponent 89 = .ok (.if_icmp .gt 9, 3) := by decide +kernel
theorem d_Model_writeExponent_92 : decode b_Model_writeExponent 92 = .ok (.iload_n 2, 1) := by decide +kernel
theorem d_Model_writeExponent_93 : decode b_Model_writeExponent 93 = .ok (.bipush 9, 2) := by decide +kernel
theorem d_Model_writeExponent_95 : decode b_Model_writeExponent 95 = .ok (.if_icmp .le 17, 3) := by decide +kernel
theorem d_Model_writeExponent_98 : decode b_Model_writeExponent 98 = .ok (.aload_n 0, 1) := by decide +kernel
theorem d_Model_writeExponent_99 : decode b_Model_writeExponent 99 = .ok (.bipush 48, 2) := by decide +kernel
theorem d_Model_writeExponent_101 : decode b_Model_writeExponent 101 = .ok (.iload_n 2, 1) := by decide +kernel
theorem d_Model_writeExponent_102 : decode b_Model_writeExponent 102 = .ok (.bipush 10, 2) := by decide +kernel
theorem d_Model_writeExponent_104 : decode b_Model_writeExponent 104 = .ok (.idiv, 1) := by decide +kernel
theorem d_Model_writeExponent_105 : decode b_Model_writeExponent 105 = .ok (.bipush 10, 2) := by decide +kernel
theorem d_Model_writeExponent_107 : decode b_Model_writeExponent 107 = .ok (.irem, 1) := by decide +kernel
theorem d_Model_writeExponent_108 : decode b_Model_writeExponent 108 = .ok (.iadd, 1) := by decide +kernel
theorem d_Model_writeExponent_109 : decode b_Model_writeExponent 109 = .ok (.invokevirtual 109, 3) := by decide +kernel
theorem d_Model_writeExponent_112 : decode b_Model_writeExponent 112 = .ok (.aload_n 0, 1) := by decide +kernel
theorem d_Model_writeExponent_113 : decode b_Model_writeExponent 113 = .ok (.bipush 48, 2) := by decide +kernel
theorem d_Model_writeExponent_115 : decode b_Model_writeExponent 115 = .ok (.iload_n 2, 1) := by decide +kernel
theorem d_Model_writeExponent_116 : decode b_Model_writeExponent 116 = .ok (.bipush 10, 2) := by decide +kernel
theorem d_Model_writeExponent_118 : decode b_Model_writeExponent 118 = .ok (.irem, 1) := by decide +kernel
theorem d_Model_writeExponent_119 : decode b_Model_writeExponent 119 = .ok (.iadd, 1) := by decide +kernel
theorem d_Model_writeExponent_120 : decode b_Model_writeExponent 120 = .ok (.invokevirtual 109, 3) := by decide +kernel
theorem d_Model_writeExponent_123 : decode b_Model_writeExponent 123 = .ok (.aload_n 0, 1) := by decide +kernel
theorem d_Model_writeExponent_124 : decode b_Model_writeExponent 124 = .ok (.getfield 33, 3) := by decide +kernel
theorem d_Model_writeExponent_127 : decode b_Model_writeExponent 127 = .ok (.iconst 5, 1) := by decide +kernel
theorem d_Model_writeExponent_128 : decode b_Model_writeExponent 128 = .ok (.aload_n 0, 1) := by decide +kernel
theorem d_Model_writeExponent_129 : decode b_Model_writeExponent 129 = .ok (.getfield 39, 3) := by decide +kernel
theorem d_Model_writeExponent_132 : decode b_Model_writeExponent 132 = .ok (.iastore, 1) := by decide +kernel
theorem d_Model_writeExponent_133 : decode b_Model_writeExponent 133 = .ok (.return_, 1) := by decide +kernel
theorem d_Model_format_0 : decode b_Model_format 0 = .ok (.aload_n 0, 1) := by decide +kernel
theorem d_Model_format_1 : decode b_Model_format 1 = .ok (.getfield 91, 3) := by decide +kernel
theorem d_Model_format_4 : decode b_Model_format 4 = .ok (.ifCond .ne 5, 3) := by decide +kernel
theorem d_Model_format_7 : decode b_Model_format 7 = .ok (.iconst (-1), 1) := by decide +kernel
theorem d_Model_format_8 : decode b_Model_format 8 = .ok (.ireturn, 1) := by decide +kernel
theorem d_Model_format_9 : decode b_Model_format 9 = .ok (.lload_n 1, 1) := by decide +kernel
theorem d_Model_format_10 : decode b_Model_format 10 = .ok (.ldc2_w 133, 3) := by decide +kernel
theorem d_Model_format_13 : decode b_Model_format 13 = .ok (.lcmp, 1) := by decide +kernel
theorem d_Model_format_14 : decode b_Model_format 14 = .ok (.ifCond .lt 21, 3) := by decide +kernel
theorem d_Model_format_17 : decode b_Model_format 17 = .ok (.lload_n 1, 1) := by decide +kernel
theorem d_Model_format_18 : decode b_Model_format 18 = .ok (.ldc2_w 135, 3) := by decide +kernel
theorem d_Model_format_21 : decode b_Model_format 21 = .ok (.lcmp, 1) := by decide +kernel
theorem d_Model_format_22 : decode b_Model_format 22 = .ok (.ifCond .gt 13, 3) := by decide +kernel
theorem d_Model_format_25 : decode b_Model_format 25 = .ok (.iload_n 3, 1) := by decide +kernel
theorem d_Model_format_26 : decode b_Model_format 26 = .ok (.ifCond .lt 9, 3) := by decide +kernel
theorem d_Model_format_29 : decode b_Model_format 29 = .ok (.iload_n 3, 1) := by decide +kernel
theorem d_Model_format_30 : decode b_Model_format 30 = .ok (.bipush 9, 2) := by decide +kernel
theorem d_Model_format_32 : decode b_Model_format 32 = .ok (.if_icmp .le 6, 3) := by decide +kernel
theorem d_Model_format_35 : decode b_Model_format 35 = .ok (.bipush (-2), 2) := by decide +kernel
theorem d_Model_format_37 : decode b_Model_format 37 = .ok (.ireturn, 1) := by decide +kernel
theorem d_Model_format_38 : decode b_Model_format 38 = .ok (.lload_n 1, 1) := by decide +kernel
theorem d_Model_format_39 : decode b_Model_format 39 = .ok (.lconst 0, 1) := by decide +kernel
theorem d_Model_format_40 : decode b_Model_format 40 = .ok (.lcmp, 1) := by decide +kernel
theorem d_Model_format_41 : decode b_Model_format 41 = .ok (.ifCond .ge 7, 3) := by decide +kernel
theorem d_Model_format_44 : decode b_Model_format 44 = .ok (.iconst 1, 1) := by decide +kernel
theorem d_Model_format_45 : decode b_Model_format 45 = .ok (.goto 4, 3) := by decide +kernel
theorem d_Model_format_48 : decode b_Model_format 48 = .ok (.iconst 0, 1) := by decide +kernel
theorem d_Model_format_49 : decode b_Model_format 49 = .ok (.istore 4, 2) := by decide +kernel
theorem d_Model_format_51 : decode b_Model_format 51 = .ok (.aload_n 0, 1) := by decide +kernel
theorem d_Model_format_52 : decode b_Model_format 52 = .ok (.iload 4, 2) := by decide +kernel
theorem d_Model_format_54 : decode b_Model_format 54 = .ok (.ifCond .eq 8, 3) := by decide +kernel
theorem d_Model_format_57 : decode b_Model_format 57 = .ok (.lload_n 1, 1) := by decide +kernel
theorem d_Model_format_58 : decode b_Model_format 58 = .ok (.lneg, 1) := by decide +kernel
theorem d_Model_format_59 : decode b_Model_format 59 = .ok (.goto 4, 3) := by decide +kernel
theorem d_Model_format_62 : decode b_Model_format 62 = .ok (.lload_n 1, 1) := by decide +kernel
theorem d_Model_format_63 : decode b_Model_format 63 = .ok (.aload_n 0, 1) := by decide +kernel
theorem d_Model_format_64 : decode b_Model_format 64 = .ok (.getfield 27, 3) := by decide +kernel
theorem d_Model_format_67 : decode b_Model_format 67 = .ok (.iconst 5, 1) := by decide +kernel
theorem d_Model_format_68 : decode b_Model_format 68 = .ok (.iaload, 1) := by decide +kernel
theorem d_Model_format_69 : decode b_Model_format 69 = .ok (.i2l, 1) := by decide +kernel
theorem d_Model_format_70 : decode b_Model_format 70 = .ok (.lmul, 1) := by decide +kernel
theorem d_Model_format_71 : decode b_Model_format 71 = .ok (.invokevirtual 137, 3) := by decide +kernel
theorem d_Model_format_74 : decode b_Model_format 74 = .ok (.aload_n 0, 1) := by decide +kernel
theorem d_Model_format_75 : decode b_Model_format 75 = .ok (.getfield 27, 3) := by decide +kernel
theorem d_Model_format_78 : decode b_Model_format 78 = .ok (.iconst 0, 1) := by decide +kernel
theorem d_Model_format_79 : decode b_Model_format 79 = .ok (.iaload, 1) := by decide +kernel
theorem d_Model_format_80 : decode b_Model_format 80 = .ok (.istore 5, 2) := by decide +kernel
theorem d_Model_format_82 : decode b_Model_format 82 = .ok (.iconst 0, 1) := by decide +kernel
theorem d_Model_format_83 : decode b_Model_format 83 = .ok (.istore 6, 2) := by decide +kernel
theorem d_Model_format_85 : decode b_Model_format 85 = .ok (.aload_n 0, 1) := by decide +kernel
theorem d_Model_format_86 : decode b_Model_format 86 = .ok (.aload_n 0, 1) := by decide +kernel
theorem d_Model_format_87 : decode b_Model_format 87 = .ok (.getfield 112, 3) := by decide +kernel
theorem d_Model_format_90 : decode b_Model_format 90 = .ok (.iload_n 3, 1) := by decide +kernel
theorem d_Model_format_91 : decode b_Model_format 91 = .ok (.isub, 1) := by decide +kernel
theorem d_Model_format_92 : decode b_Model_format 92 = .ok (.putfield 119, 3) := by decide +kernel
theorem d_Model_format_95 : decode b_Model_format 95 = .ok (.aload_n 0, 1) := by decide +kernel
theorem d_Model_format_96 : decode b_Model_format 96 = .ok (.getfield 27, 3) := by decide +kernel
theorem d_Model_format_99 : decode b_Model_format 99 = .ok (.iconst 4, 1) := by decide +kernel
theorem d_Model_format_100 : decode b_Model_format 100 = .ok (.iaload, 1) := by decide +kernel
theorem d_Model_format_101 : decode b_Model_format 101 = .ok (.ifCond .le 25, 3) := by decide +kernel
theorem d_Model_format_104 : decode b_Model_format 104 = .ok (.aload_n 0, 1) := by decide +kernel
theorem d_Model_format_105 : decode b_Model_format 105 = .ok (.getfield 112, 3) := by decide +kernel
theorem d_Model_format_108 : decode b_Model_format 108 = .ok (.ifCond .le 18, 3) := by decide +kernel
theorem d_Model_format_111 : decode b_Model_format 111 = .ok (.aload_n 0, 1) := by decide +kernel
theorem d_Model_format_112 : decode b_Model_format 112 = .ok (.getfield 119, 3) := by decide +kernel
theorem d_Model_format_115 : decode b_Model_format 115 = .ok (.iload 5, 2) := by decide +kernel
theorem d_Model_format_117 : decode b_Model_format 117 = .ok (.isub, 1) := by decide +kernel
theorem d_Model_format_118 : decode b_Model_format 118 = .ok (.istore 6, 2) := by decide +kernel
theorem d_Model_format_120 : decode b_Model_format 120 = .ok (.aload_n 0, 1) := by decide +kernel
theorem d_Model_format_121 : decode b_Model_format 121 = .ok (.iload 5, 2) := by decide +kernel
theorem d_Model_format_123 : decode b_Model_format 123 = .ok (.putfield 119, 3) := by decide +kernel
theorem d_Model_format_126 : decode b_Model_format 126 = .ok (.aload_n 0, 1) := by decide +kernel
theorem d_Model_format_127 : decode b_Model_format 127 = .ok (.aload_n 0, 1) := by decide +kernel
theorem d_Model_format_128 : decode b_Model_format 128 = .ok (.getfield 27, 3) := by decide +kernel
theorem d_Model_format_131 : decode b_Model_format 131 = .ok (.iconst 2, 1) := by decide +kernel
theorem d_Model_format_132 : decode b_Model_format 132 = .ok (.iaload, 1) := by decide +kernel
theorem d_Model_format_133 : decode b_Model_format 133 = .ok (.iload 4, 2) := by decide +kernel
theorem d_Model_format_135 : decode b_Model_format 135 = .ok (.invokevirtual 141, 3) := by decide +kernel
theorem d_Model_format_138 : decode b_Model_format 138 = .ok (.ifCond .ne 6, 3) := by decide +kernel
theorem d_Model_format_141 : decode b_Model_format 141 = .ok (.bipush (-3), 2) := by decide +kernel
theorem d_Model_format_143 : decode b_Model_format 143 = .ok (.ireturn, 1) := by decide +kernel
theorem d_Model_format_144 : decode b_Model_format 144 = .ok (.aload_n 0, 1) := by decide +kernel
theorem d_Model_format_145 : decode b_Model_format 145 = .ok (.getfield 27, 3) := by decide +kernel
theorem d_Model_format_148 : decode b_Model_format 148 = .ok (.iconst 4, 1) := by decide +kernel
theorem d_Model_format_149 : decode b_Model_format 149 = .ok (.iaload, 1) := by decide +kernel
theorem d_Model_format_150 : decode b_Model_format 150 = .ok (.ifCond .le 31, 3) := by decide +kernel
theorem d_Model_format_153 : decode b_Model_format 153 = .ok (.aload_n 0, 1) := by decide +kernel
theorem d_Model_format_154 : decode b_Model_format 154 = .ok (.getfield 112, 3) := by decide +kernel
theorem d_Model_format_157 : decode b_Model_format 157 = .ok (.ifCond .le 24, 3) := by decide +kernel
theorem d_Model_format_160 : decode b_Model_format 160 = .ok (.aload_n 0, 1) := by decide +kernel
theorem d_Model_format_161 : decode b_Model_format 161 = .ok (.getfield 119, 3) := by decide +kernel
theorem d_Model_format_164 : decode b_Model_format 164 = .ok (.iload 5, 2) := by decide +kernel
theorem d_Model_format_166 : decode b_Model_format 166 = .ok (.if_icmp .le 15, 3) := by decide +kernel
theorem d_Model_format_169 : decode b_Model_format 169 = .ok (.iload 6, 2) := by decide +kernel
theorem d_Model_format_171 : decode b_Model_format 171 = .ok (.iconst 1, 1) := by decide +kernel
theorem d_Model_format_172 : decode b_Model_format 172 = .ok (.iadd, 1) := by decide +kernel
theorem d_Model_format_173 : decode b_Model_format 173 = .ok (.istore 6, 2) := by decide +kernel
theorem d_Model_format_175 : decode b_Model_format 175 = .ok (.aload_n 0, 1) := by decide +kernel
theorem d_Model_format_176 : decode b_Model_format 176 = .ok (.iload 5, 2) := by decide +kernel
theorem d_Model_format_178 : decode b_Model_format 178 = .ok (.putfield 119, 3) := by decide +kernel
theorem d_Model_format_181 : decode b_Model_format 181 = .ok (.iload 4, 2) := by decide +kernel
theorem d_Model_format_183 : decode b_Model_format 183 = .ok (.ifCond .eq 14, 3) := by decide +kernel
theorem d_Model_format_186 : decode b_Model_format 186 = .ok (.aload_n 0, 1) := by decide +kernel
theorem d_Model_format_187 : decode b_Model_format 187 = .ok (.getfield 112, 3) := by decide +kernel
theorem d_Model_format_190 : decode b_Model_format 190 = .ok (.ifCond .le 7, 3) := by decide +kernel
theorem d_Model_format_193 : decode b_Model_format 193 = .ok (.iconst 1, 1) := by decide +kernel
theorem d_Model_format_194 : decode b_Model_format 194 = .ok (.goto 4, 3) := by decide +kernel
theorem d_Model_format_197 : decode b_Model_format 197 = .ok (.iconst 0, 1) := by decide +kernel
theorem d_Model_format_198 : decode b_Model_format 198 = .ok (.istore 7, 2) := by decide +kernel
theorem d_Model_format_200 : decode b_Model_format 200 = .ok (.aload_n 0, 1) := by decide +kernel
theorem d_Model_format_201 : decode b_Model_format 201 = .ok (.iconst 0, 1) := by decide +kernel
theorem d_Model_format_202 : decode b_Model_format 202 = .ok (.putfield 39, 3) := by decide +kernel
theorem d_Model_format_205 : decode b_Model_format 205 = .ok (.aload_n 0, 1) := by decide +kernel
theorem d_Model_format_206 : decode b_Model_format 206 = .ok (.iconst 1, 1) := by decide +kernel
theorem d_Model_format_207 : decode b_Model_format 207 = .ok (.putfield 145, 3) := by decide +kernel
theorem d_Model_format_210 : decode b_Model_format 210 = .ok (.aload_n 0, 1) := by decide +kernel
theorem d_Model_format_211 : decode b_Model_format 211 = .ok (.iload 7, 2) := by decide +kernel
theorem d_Model_format_213 : decode b_Model_format 213 = .ok (.iconst 0, 1) := by decide +kernel
theorem d_Model_format_214 : decode b_Model_format 214 = .ok (.invokevirtual 148, 3) := by decide +kernel
theorem d_Model_format_217 : decode b_Model_format 217 = .ok (.aload_n 0, 1) := by decide +kernel
theorem d_Model_format_218 : decode b_Model_format 218 = .ok (.invokevirtual 152, 3) := by decide +kernel
theorem d_Model_format_221 : decode b_Model_format 221 = .ok (.istore 8, 2) := by decide +kernel
theorem d_Model_format_223 : decode b_Model_format 223 = .ok (.aload_n 0, 1) := by decide +kernel
theorem d_Model_format_224 : decode b_Model_format 224 = .ok (.iload 8, 2) := by decide +kernel
theorem d_Model_format_226 : decode b_Model_format 226 = .ok (.invokevirtual 156, 3) := by decide +kernel
theorem d_Model_format_229 : decode b_Model_format 229 = .ok (.aload_n 0, 1) := by decide +kernel
theorem d_Model_format_230 : decode b_Model_format 230 = .ok (.iload 8, 2) := by decide +kernel
theorem d_Model_format_232 : decode b_Model_format 232 = .ok (.invokevirtual 159, 3) := by decide +kernel
theorem d_Model_format_235 : decode b_Model_format 235 = .ok (.aload_n 0, 1) := by decide +kernel
theorem d_Model_format_236 : decode b_Model_format 236 = .ok (.iload 6, 2) := by decide +kernel
theorem d_Model_format_238 : decode b_Model_format 238 = .ok (.invokevirtual 162, 3) := by decide +kernel
theorem d_Model_format_241 : decode b_Model_format 241 = .ok (.aload_n 0, 1) := by decide +kernel
theorem d_Model_format_242 : decode b_Model_format 242 = .ok (.iload 7, 2) := by decide +kernel
theorem d_Model_format_244 : decode b_Model_format 244 = .ok (.iconst 1, 1) := by decide +kernel
theorem d_Model_format_245 : decode b_Model_format 245 = .ok (.invokevirtual 148, 3) := by decide +kernel
theorem d_Model_format_248 : decode b_Model_format 248 = .ok (.aload_n 0, 1) := by decide +kernel
theorem d_Model_format_249 : decode b_Model_format 249 = .ok (.getfield 39, 3) := by decide +kernel
theorem d_Model_format_252 : decode b_Model_format 252 = .ok (.ireturn, 1) := by decide +kernel
theorem d_Model_field_0 : decode b_Model_field 0 = .ok (.iload_n 1, 1) := by decide +kernel
theorem d_Model_field_1 : decode b_Model_field 1 = .ok (.ifCond .lt 15, 3) := by decide +kernel
theorem d_Model_field_4 : decode b_Model_field 4 = .ok (.iload_n 1, 1) := by decide +kernel
theorem d_Model_field_5 : decode b_Model_field 5 = .ok (.iconst 2, 1) := by decide +kernel
theorem d_Model_field_6 : decode b_Model_field 6 = .ok (.if_icmp .gt 10, 3) := by decide +kernel
theorem d_Model_field_9 : decode b_Model_field 9 = .ok (.aload_n 0, 1) := by decide +kernel
theorem d_Model_field_10 : decode b_Model_field 10 = .ok (.getfield 145, 3) := by decide +kernel
theorem d_Model_field_13 : decode b_Model_field 13 = .ok (.ifCond .ne 7, 3) := by decide +kernel
theorem d_Model_field_16 : decode b_Model_field 16 = .ok (.iconst (-1), 1) := by decide +kernel
theorem d_Model_field_17 : decode b_Model_field 17 = .ok (.goto 21, 3) := by decide +kernel
theorem d_Model_field_20 : decode b_Model_field 20 = .ok (.aload_n 0, 1) := by decide +kernel
theorem d_Model_field_21 : decode b_Model_field 21 = .ok (.getfield 33, 3) := by decide +kernel
theorem d_Model_field_24 : decode b_Model_field 24 = .ok (.iconst 2, 1) := by decide +kernel
theorem d_Model_field_25 : decode b_Model_field 25 = .ok (.iload_n 1, 1) := by decide +kernel
theorem d_Model_field_26 : decode b_Model_field 26 = .ok (.imul, 1) := by decide +kernel
theorem d_Model_field_27 : decode b_Model_field 27 = .ok (.iload_n 2, 1) := by decide +kernel
theorem d_Model_field_28 : decode b_Model_field 28 = .ok (.ifCond .eq 7, 3) := by decide +kernel
theorem d_Model_field_31 : decode b_Model_field 31 = .ok (.iconst 1, 1) := by decide +kernel
theorem d_Model_field_32 : decode b_Model_field 32 = .ok (.goto 4, 3) := by decide +kernel
theorem d_Model_field_35 : decode b_Model_field 35 = .ok (.iconst 0, 1) := by decide +kernel
theorem d_Model_field_36 : decode b_Model_field 36 = .ok (.iadd, 1) := by decide +kernel
theorem d_Model_field_37 : decode b_Model_field 37 = .ok (.iaload, 1) := by decide +kernel
theorem d_Model_field_38 : decode b_Model_field 38 = .ok (.ireturn, 1) := by decide +kernel
theorem d_Model_printAffix_0 : decode b_Model_printAffix 0 = .ok (.iconst 0, 1) := by decide +kernel
theorem d_Model_printAffix_1 : decode b_Model_printAffix 1 = .ok (.istore_n 2, 1) := by decide +kernel
theorem d_Model_printAffix_2 : decode b_Model_printAffix 2 = .ok (.iconst 0, 1) := by decide +kernel
theorem d_Model_printAffix_3 : decode b_Model_printAffix 3 = .ok (.istore_n 3, 1) := by decide +kernel
theorem d_Model_printAffix_4 : decode b_Model_printAffix 4 = .ok (.iload_n 3, 1) := by decide +kernel
theorem d_Model_printAffix_5 : decode b_Model_printAffix 5 = .ok (.aload_n 0, 1) := by decide +kernel
theorem d_Model_printAffix_6 : decode b_Model_printAffix 6 = .ok (.getfield 24, 3) := by decide +kernel
theorem d_Model_printAffix_9 : decode b_Model_printAffix 9 = .ok (.iload_n 1, 1) := by decide +kernel
theorem d_Model_printAffix_10 : decode b_Model_printAffix 10 = .ok (.iaload, 1) := by decide +kernel
theorem d_Model_printAffix_11 : decode b_Model_printAffix 11 = .ok (.if_icmp .ge 113, 3) := by decide +kernel
theorem d_Model_printAffix_14 : decode b_Model_printAffix 14 = .ok (.aload_n 0, 1) := by decide +kernel
theorem d_Model_printAffix_15 : decode b_Model_printAffix 15 = .ok (.getfield 20, 3) := by decide +kernel
theorem d_Model_printAffix_18 : decode b_Model_printAffix 18 = .ok (.bipush 40, 2) := by decide +kernel
theorem d_Model_printAffix_20 : decode b_Model_printAffix 20 = .ok (.iload_n 1, 1) := by decide +kernel
theorem d_Model_printAffix_21 : decode b_Model_printAffix 21 = .ok (.imul, 1) := by decide +kernel
theorem d_Model_printAffix_22 : decode b_Model_printAffix 22 = .ok (.iload_n 3, 1) := by decide +kernel
theorem d_Model_printAffix_23 : decode b_Model_printAffix 23 = .ok (.iadd, 1) := by decide +kernel
theorem d_Model_printAffix_24 : decode b_Model_printAffix 24 = .ok (.iaload, 1) := by decide +kernel
theorem d_Model_printAffix_25 : decode b_Model_printAffix 25 = .ok (.istore 4, 2) := by decide +kernel
theorem d_Model_printAffix_27 : decode b_Model_printAffix 27 = .ok (.iload 4, 2) := by decide +kernel
theorem d_Model_printAffix_29 : decode b_Model_printAffix 29 = .ok (.invokestatic 60, 3) := by decide +kernel
theorem d_Model_printAffix_32 : decode b_Model_printAffix 32 = .ok (.ifCond .ne 10, 3) := by decide +kernel
theorem d_Model_printAffix_35 : decode b_Model_printAffix 35 = .ok (.iload 4, 2) := by decide +kernel
theorem d_Model_printAffix_37 : decode b_Model_printAffix 37 = .ok (.bipush 37, 2) := by decide +kernel
theorem d_Model_printAffix_39 : decode b_Model_printAffix 39 = .ok (.if_icmp .ne 7, 3) := by decide +kernel
theorem d_Model_printAffix_42 : decode b_Model_printAffix 42 = .ok (.iconst 1, 1) := by decide +kernel
theorem d_Model_printAffix_43 : decode b_Model_printAffix 43 = .ok (.goto 4, 3) := by decide +kernel
theorem d_Model_printAffix_46 : decode b_Model_printAffix 46 = .ok (.iconst 0, 1) := by decide +kernel
theorem d_Model_printAffix_47 : decode b_Model_printAffix 47 = .ok (.istore 5, 2) := by decide +kernel
theorem d_Model_printAffix_49 : decode b_Model_printAffix 49 = .ok (.iload 5, 2) := by decide +kernel
theorem d_Model_printAffix_51 : decode b_Model_printAffix 51 = .ok (.ifCond .eq 7, 3) := by decide +kernel
theorem d_Model_printAffix_54 : decode b_Model_printAffix 54 = .ok (.iload_n 2, 1) := by decide +kernel
theorem d_Model_printAffix_55 : decode b_Model_printAffix 55 = .ok (.ifCond .eq 15, 3) := by decide +kernel
theorem d_Model_printAffix_58 : decode b_Model_printAffix 58 = .ok (.iload 4, 2) := by decide +kernel
theorem d_Model_printAffix_60 : decode b_Model_printAffix 60 = .ok (.sipush 200, 3) := by decide +kernel
theorem d_Model_printAffix_63 : decode b_Model_printAffix 63 = .ok (.if_icmp .ne 23, 3) := by decide +kernel
theorem d_Model_printAffix_66 : decode b_Model_printAffix 66 = .ok (.iload_n 2, 1) := by decide +kernel
theorem d_Model_printAffix_67 : decode b_Model_printAffix 67 = .ok (.ifCond .eq 19, 3) := by decide +kernel
theorem d_Model_printAffix_70 : decode b_Model_printAffix 70 = .ok (.aload_n 0, 1) := by decide +kernel
theorem d_Model_printAffix_71 : decode b_Model_printAffix 71 = .ok (.bipush 39, 2) := by decide +kernel
theorem d_Model_printAffix_73 : decode b_Model_printAffix 73 = .ok (.invokevirtual 109, 3) := by decide +kernel
theorem d_Model_printAffix_76 : decode b_Model_printAffix 76 = .ok (.iload_n 2, 1) := by decide +kernel
theorem d_Model_printAffix_77 : decode b_Model_printAffix 77 = .ok (.ifCond .ne 7, 3) := by decide +kernel
theorem d_Model_printAffix_80 : decode b_Model_printAffix 80 = .ok (.iconst 1, 1) := by decide +kernel
theorem d_Model_printAffix_81 : decode b_Model_printAffix 81 = .ok (.goto 4, 3) := by decide +kernel
theorem d_Model_printAffix_84 : decode b_Model_printAffix 84 = .ok (.iconst 0, 1) := by decide +kernel
theorem d_Model_printAffix_85 : decode b_Model_printAffix 85 = .ok (.istore_n 2, 1) := by decide +kernel
theorem d_Model_printAffix_86 : decode b_Model_printAffix 86 = .ok (.iload 4, 2) := by decide +kernel
theorem d_Model_printAffix_88 : decode b_Model_printAffix 88 = .ok (.bipush 39, 2) := by decide +kernel
theorem d_Model_printAffix_90 : decode b_Model_printAffix 90 = .ok (.if_icmp .ne 9, 3) := by decide +kernel
theorem d_Model_printAffix_93 : decode b_Model_printAffix 93 = .ok (.aload_n 0, 1) := by decide +kernel
theorem d_Model_printAffix_94 : decode b_Model_printAffix 94 = .ok (.bipush 39, 2) := by decide +kernel
theorem d_Model_printAffix_96 : decode b_Model_printAffix 96 = .ok (.invokevirtual 109, 3) := by decide +kernel
theorem d_Model_printAffix_99 : decode b_Model_printAffix 99 = .ok (.aload_n 0, 1) := by decide +kernel
theorem d_Model_printAffix_100 : decode b_Model_printAffix 100 = .ok (.iload 4, 2) := by decide +kernel
theorem d_Model_printAffix_102 : decode b_Model_printAffix 102 = .ok (.sipush 200, 3) := by decide +kernel
theorem d_Model_printAffix_105 : decode b_Model_printAffix 105 = .ok (.if_icmp .ne 8, 3) := by decide +kernel
theorem d_Model_printAffix_108 : decode b_Model_printAffix 108 = .ok (.bipush 37, 2) := by decide +kernel
theorem d_Model_printAffix_110 : decode b_Model_printAffix 110 = .ok (.goto 5, 3) := by decide +kernel
theorem d_Model_printAffix_113 : decode b_Model_printAffix 113 = .ok (.iload 4, 2) := by decide +kernel
theorem d_Model_printAffix_115 : decode b_Model_printAffix 115 = .ok (.invokevirtual 109, 3) := by decide +kernel
theorem d_Model_printAffix_118 : decode b_Model_printAffix 118 = .ok (.iinc 3 1, 3) := by decide +kernel
theorem d_Model_printAffix_121 : decode b_Model_printAffix 121 = .ok (.goto (-117), 3) := by decide +kernel
theorem d_Model_printAffix_124 : decode b_Model_printAffix 124 = .ok (.iload_n 2, 1) := by decide +kernel
theorem d_Model_printAffix_125 : decode b_Model_printAffix 125 = .ok (.ifCond .eq 9, 3) := by decide +kernel
theorem d_Model_printAffix_128 : decode b_Model_printAffix 128 = .ok (.aload_n 0, 1) := by decide +kernel
theorem d_Model_printAffix_129 : decode b_Model_printAffix 129 = .ok (.bipush 39, 2) := by decide +kernel
theorem d_Model_printAffix_131 : decode b_Model_printAffix 131 = .ok (.invokevirtual 109, 3) := by decide +kernel
theorem d_Model_printAffix_134 : decode b_Model_printAffix 134 = .ok (.return_, 1) := by decide +kernel
theorem d_Model_many_0 : decode b_Model_many 0 = .ok (.iconst 0, 1) := by decide +kernel
theorem d_Model_many_1 : decode b_Model_many 1 = .ok (.istore_n 3, 1) := by decide +kernel
theorem d_Model_many_2 : decode b_Model_many 2 = .ok (.iload_n 3, 1) := by decide +kernel
theorem d_Model_many_3 : decode b_Model_many 3 = .ok (.iload_n 1, 1) := by decide +kernel
theorem d_Model_many_4 : decode b_Model_many 4 = .ok (.if_icmp .ge 14, 3) := by decide +kernel
theorem d_Model_many_7 : decode b_Model_many 7 = .ok (.aload_n 0, 1) := by decide +kernel
theorem d_Model_many_8 : decode b_Model_many 8 = .ok (.iload_n 2, 1) := by decide +kernel
theorem d_Model_many_9 : decode b_Model_many 9 = .ok (.invokevirtual 109, 3) := by decide +kernel
theorem d_Model_many_12 : decode b_Model_many 12 = .ok (.iinc 3 1, 3) := by decide +kernel
theorem d_Model_many_15 : decode b_Model_many 15 = .ok (.goto (-13), 3) := by decide +kernel
theorem d_Model_many_18 : decode b_Model_many 18 = .ok (.return_, 1) := by decide +kernel
theorem d_Model_printNumber_0 : decode b_Model_printNumber 0 = .ok (.aload_n 0, 1) := by decide +kernel
theorem d_Model_printNumber_1 : decode b_Model_printNumber 1 = .ok (.getfield 27, 3) := by decide +kernel
theorem d_Model_printNumber_4 : decode b_Model_printNumber 4 = .ok (.iconst 0, 1) := by decide +kernel
theorem d_Model_printNumber_5 : decode b_Model_printNumber 5 = .ok (.iaload, 1) := by decide +kernel
theorem d_Model_printNumber_6 : decode b_Model_printNumber 6 = .ok (.istore_n 1, 1) := by decide +kernel
theorem d_Model_printNumber_7 : decode b_Model_printNumber 7 = .ok (.aload_n 0, 1) := by decide +kernel
theorem d_Model_printNumber_8 : decode b_Model_printNumber 8 = .ok (.getfield 27, 3) := by decide +kernel
theorem d_Model_printNumber_11 : decode b_Model_printNumber 11 = .ok (.iconst 3, 1) := by decide +kernel
theorem d_Model_printNumber_12 : decode b_Model_printNumber 12 = .ok (.iaload, 1) := by decide +kernel
theorem d_Model_printNumber_13 : decode b_Model_printNumber 13 = .ok (.istore_n 2, 1) := by decide +kernel
theorem d_Model_printNumber_14 : decode b_Model_printNumber 14 = .ok (.iload_n 2, 1) := by decide +kernel
theorem d_Model_printNumber_15 : decode b_Model_printNumber 15 = .ok (.ifCond .ne 15, 3) := by decide +kernel
theorem d_Model_printNumber_18 : decode b_Model_printNumber 18 = .ok (.iload_n 1, 1) := by decide +kernel
theorem d_Model_printNumber_19 : decode b_Model_printNumber 19 = .ok (.ifCond .ne 7, 3) := by decide +kernel
theorem d_Model_printNumber_22 : decode b_Model_printNumber 22 = .ok (.iconst 1, 1) := by decide +kernel
theorem d_Model_printNumber_23 : decode b_Model_printNumber 23 = .ok (.goto 19, 3) := by decide +kernel
theorem d_Model_printNumber_26 : decode b_Model_printNumber 26 = .ok (.iload_n 1, 1) := by decide +kernel
theorem d_Model_printNumber_27 : decode b_Model_printNumber 27 = .ok (.goto 15, 3) := by decide +kernel
theorem d_Model_printNumber_30 : decode b_Model_printNumber 30 = .ok (.iload_n 1, 1) := by decide +kernel
theorem d_Model_printNumber_31 : decode b_Model_printNumber 31 = .ok (.iload_n 2, 1) := by decide +kernel
theorem d_Model_printNumber_32 : decode b_Model_printNumber 32 = .ok (.if_icmp .le 7, 3) := by decide +kernel
theorem d_Model_printNumber_35 : decode b_Model_printNumber 35 = .ok (.iload_n 1, 1) := by decide +kernel
theorem d_Model_printNumber_36 : decode b_Model_printNumber 36 = .ok (.goto 6, 3) := by decide +kernel
theorem d_Model_printNumber_39 : decode b_Model_printNumber 39 = .ok (.iload_n 2, 1) := by decide +kernel
theorem d_Model_printNumber_40 : decode b_Model_printNumber 40 = .ok (.iconst 1, 1) := by decide +kernel
theorem d_Model_printNumber_41 : decode b_Model_printNumber 41 = .ok (.iadd, 1) := by decide +kernel
theorem d_Model_printNumber_42 : decode b_Model_printNumber 42 = .ok (.istore_n 3, 1) := by decide +kernel
theorem d_Model_printNumber_43 : decode b_Model_printNumber 43 = .ok (.iload_n 3, 1) := by decide +kernel
theorem d_Model_printNumber_44 : decode b_Model_printNumber 44 = .ok (.istore 4, 2) := by decide +kernel
theorem d_Model_printNumber_46 : decode b_Model_printNumber 46 = .ok (.iload 4, 2) := by decide +kernel
theorem d_Model_printNumber_48 : decode b_Model_printNumber 48 = .ok (.ifCond .le 42, 3) := by decide +kernel
theorem d_Model_printNumber_51 : decode b_Model_printNumber 51 = .ok (.iload_n 2, 1) := by decide +kernel
theorem d_Model_printNumber_52 : decode b_Model_printNumber 52 = .ok (.ifCond .le 15, 3) := by decide +kernel
theorem d_Model_printNumber_55 : decode b_Model_printNumber 55 = .ok (.iload 4, 2) := by decide +kernel
theorem d_Model_printNumber_57 : decode b_Model_printNumber 57 = .ok (.iload_n 2, 1) := by decide +kernel
theorem d_Model_printNumber_58 : decode b_Model_printNumber 58 = .ok (.if_icmp .ne 9, 3) := by decide +kernel
theorem d_Model_printNumber_61 : decode b_Model_printNumber 61 = .ok (.aload_n 0, 1) := by decide +kernel
theorem d_Model_printNumber_62 : decode b_Model_printNumber 62 = .ok (.bipush 44, 2) := by decide +kernel
theorem d_Model_printNumber_64 : decode b_Model_printNumber 64 = .ok (.invokevirtual 109, 3) := by decide +kernel
theorem d_Model_printNumber_67 : decode b_Model_printNumber 67 = .ok (.aload_n 0, 1) := by decide +kernel
theorem d_Model_printNumber_68 : decode b_Model_printNumber 68 = .ok (.iload 4, 2) := by decide +kernel
theorem d_Model_printNumber_70 : decode b_Model_printNumber 70 = .ok (.iload_n 1, 1) := by decide +kernel
theorem d_Model_printNumber_71 : decode b_Model_printNumber 71 = .ok (.if_icmp .le 8, 3) := by decide +kernel
theorem d_Model_printNumber_74 : decode b_Model_printNumber 74 = .ok (.bipush 35, 2) := by decide +kernel
theorem d_Model_printNumber_76 : decode b_Model_printNumber 76 = .ok (.goto 5, 3) := by decide +kernel
theorem d_Model_printNumber_79 : decode b_Model_printNumber 79 = .ok (.bipush 48, 2) := by decide +kernel
theorem d_Model_printNumber_81 : decode b_Model_printNumber 81 = .ok (.invokevirtual 109, 3) := by decide +kernel
theorem d_Model_printNumber_84 : decode b_Model_printNumber 84 = .ok (.iinc 4 (-1), 3) := by decide +kernel
theorem d_Model_printNumber_87 : decode b_Model_printNumber 87 = .ok (.goto (-41), 3) := by decide +kernel
theorem d_Model_printNumber_90 : decode b_Model_printNumber 90 = .ok (.aload_n 0, 1) := by decide +kernel
theorem d_Model_printNumber_91 : decode b_Model_printNumber 91 = .ok (.getfield 27, 3) := by decide +kernel
theorem d_Model_printNumber_94 : decode b_Model_printNumber 94 = .ok (.iconst 2, 1) := by decide +kernel
theorem d_Model_printNumber_95 : decode b_Model_printNumber 95 = .ok (.iaload, 1) := by decide +kernel
theorem d_Model_printNumber_96 : decode b_Model_printNumber 96 = .ok (.ifCond .le 40, 3) := by decide +kernel
theorem d_Model_printNumber_99 : decode b_Model_printNumber 99 = .ok (.aload_n 0, 1) := by decide +kernel
theorem d_Model_printNumber_100 : decode b_Model_printNumber 100 = .ok (.bipush 46, 2) := by decide +kernel
theorem d_Model_printNumber_102 : decode b_Model_printNumber 102 = .ok (.invokevirtual 109, 3) := by decide +kernel
theorem d_Model_printNumber_105 : decode b_Model_printNumber 105 = .ok (.aload_n 0, 1) := by decide +kernel
theorem d_Model_printNumber_106 : decode b_Model_printNumber 106 = .ok (.aload_n 0, 1) := by decide +kernel
theorem d_Model_printNumber_107 : decode b_Model_printNumber 107 = .ok (.getfield 27, 3) := by decide +kernel
theorem d_Model_printNumber_110 : decode b_Model_printNumber 110 = .ok (.iconst 1, 1) := by decide +kernel
theorem d_Model_printNumber_111 : decode b_Model_printNumber 111 = .ok (.iaload, 1) := by decide +kernel
theorem d_Model_printNumber_112 : decode b_Model_printNumber 112 = .ok (.bipush 48, 2) := by decide +kernel
theorem d_Model_printNumber_114 : decode b_Model_printNumber 114 = .ok (.invokevirtual 165, 3) := by decide +kernel
theorem d_Model_printNumber_117 : decode b_Model_printNumber 117 = .ok (.aload_n 0, 1) := by decide +kernel
theorem d_Model_printNumber_118 : decode b_Model_printNumber 118 = .ok (.aload_n 0, 1) := by decide +kernel
theorem d_Model_printNumber_119 : decode b_Model_printNumber 119 = .ok (.getfield 27, 3) := by decide +kernel
theorem d_Model_printNumber_122 : decode b_Model_printNumber 122 = .ok (.iconst 2, 1) := by decide +kernel
theorem d_Model_printNumber_123 : decode b_Model_printNumber 123 = .ok (.iaload, 1) := by decide +kernel
theorem d_Model_printNumber_124 : decode b_Model_printNumber 124 = .ok (.aload_n 0, 1) := by decide +kernel
theorem d_Model_printNumber_125 : decode b_Model_printNumber 125 = .ok (.getfield 27, 3) := by decide +kernel
theorem d_Model_printNumber_128 : decode b_Model_printNumber 128 = .ok (.iconst 1, 1) := by decide +kernel
theorem d_Model_printNumber_129 : decode b_Model_printNumber 129 = .ok (.iaload, 1) := by decide +kernel
theorem d_Model_printNumber_130 : decode b_Model_printNumber 130 = .ok (.isub, 1) := by decide +kernel
theorem d_Model_printNumber_131 : decode b_Model_printNumber 131 = .ok (.bipush 35, 2) := by decide +kernel
theorem d_Model_printNumber_133 : decode b_Model_printNumber 133 = .ok (.invokevirtual 165, 3) := by decide +kernel
theorem d_Model_printNumber_136 : decode b_Model_printNumber 136 = .ok (.aload_n 0, 1) := by decide +kernel
theorem d_Model_printNumber_137 : decode b_Model_printNumber 137 = .ok (.getfield 27, 3) := by decide +kernel
theorem d_Model_printNumber_140 : decode b_Model_printNumber 140 = .ok (.iconst 4, 1) := by decide +kernel
theorem d_Model_printNumber_141 : decode b_Model_printNumber 141 = .ok (.iaload, 1) := by decide +kernel
theorem d_Model_printNumber_142 : decode b_Model_printNumber 142 = .ok (.ifCond .le 21, 3) := by decide +kernel
theorem d_Model_printNumber_145 : decode b_Model_printNumber 145 = .ok (.aload_n 0, 1) := by decide +kernel
theorem d_Model_printNumber_146 : decode b_Model_printNumber 146 = .ok (.bipush 69, 2) := by decide +kernel
theorem d_Model_printNumber_148 : decode b_Model_printNumber 148 = .ok (.invokevirtual 109, 3) := by decide +kernel
theorem d_Model_printNumber_151 : decode b_Model_printNumber 151 = .ok (.aload_n 0, 1) := by decide +kernel
theorem d_Model_printNumber_152 : decode b_Model_printNumber 152 = .ok (.aload_n 0, 1) := by decide +kernel
theorem d_Model_printNumber_153 : decode b_Model_printNumber 153 = .ok (.getfield 27, 3) := by decide +kernel
theorem d_Model_printNumber_156 : decode b_Model_printNumber 156 = .ok (.iconst 4, 1) := by decide +kernel
theorem d_Model_printNumber_157 : decode b_Model_printNumber 157 = .ok (.iaload, 1) := by decide +kernel
theorem d_Model_printNumber_158 : decode b_Model_printNumber 158 = .ok (.bipush 48, 2) := by decide +kernel
theorem d_Model_printNumber_160 : decode b_Model_printNumber 160 = .ok (.invokevirtual 165, 3) := by decide +kernel
theorem d_Model_printNumber_163 : decode b_Model_printNumber 163 = .ok (.return_, 1) := by decide +kernel
theorem d_Model_like_0 : decode b_Model_like 0 = .ok (.aload_n 0, 1) := by decide +kernel
theorem d_Model_like_1 : decode b_Model_like 1 = .ok (.getfield 24, 3) := by decide +kernel
theorem d_Model_like_4 : decode b_Model_like 4 = .ok (.iload_n 1, 1) := by decide +kernel
theorem d_Model_like_5 : decode b_Model_like 5 = .ok (.iaload, 1) := by decide +kernel
theorem d_Model_like_6 : decode b_Model_like 6 = .ok (.aload_n 0, 1) := by decide +kernel
theorem d_Model_like_7 : decode b_Model_like 7 = .ok (.getfield 24, 3) := by decide +kernel
theorem d_Model_like_10 : decode b_Model_like 10 = .ok (.iload_n 2, 1) := by decide +kernel
theorem d_Model_like_11 : decode b_Model_like 11 = .ok (.iaload, 1) := by decide +kernel
theorem d_Model_like_12 : decode b_Model_like 12 = .ok (.iload_n 3, 1) := by decide +kernel
theorem d_Model_like_13 : decode b_Model_like 13 = .ok (.iadd, 1) := by decide +kernel
theorem d_Model_like_14 : decode b_Model_like 14 = .ok (.if_icmp .ne 7, 3) := by decide +kernel
theorem d_Model_like_17 : decode b_Model_like 17 = .ok (.iconst 1, 1) := by decide +kernel
theorem d_Model_like_18 : decode b_Model_like 18 = .ok (.goto 4, 3) := by decide +kernel
theorem d_Model_like_21 : decode b_Model_like 21 = .ok (.iconst 0, 1) := by decide +kernel
theorem d_Model_like_22 : decode b_Model_like 22 = .ok (.istore 4, 2) := by decide +kernel
theorem d_Model_like_24 : decode b_Model_like 24 = .ok (.iconst 0, 1) := by decide +kernel
theorem d_Model_like_25 : decode b_Model_like 25 = .ok (.istore 5, 2) := by decide +kernel
theorem d_Model_like_27 : decode b_Model_like 27 = .ok (.iload 4, 2) := by decide +kernel
theorem d_Model_like_29 : decode b_Model_like 29 = .ok (.ifCond .eq 71, 3) := by decide +kernel
theorem d_Model_like_32 : decode b_Model_like 32 = .ok (.iload 5, 2) := by decide +kernel
theorem d_Model_like_34 : decode b_Model_like 34 = .ok (.aload_n 0, 1) := by decide +kernel
theorem d_Model_like_35 : decode b_Model_like 35 = .ok (.getfield 24, 3) := by decide +kernel
theorem d_Model_like_38 : decode b_Model_like 38 = .ok (.iload_n 1, 1) := by decide +kernel
theorem d_Model_like_39 : decode b_Model_like 39 = .ok (.iaload, 1) := by decide +kernel
theorem d_Model_like_40 : decode b_Model_like 40 = .ok (.if_icmp .ge 60, 3) := by decide +kernel
theorem d_Model_like_43 : decode b_Model_like 43 = .ok (.iload 5, 2) := by decide +kernel
theorem d_Model_like_45 : decode b_Model_like 45 = .ok (.iload_n 3, 1) := by decide +kernel
theorem d_Model_like_46 : decode b_Model_like 46 = .ok (.if_icmp .ge 8, 3) := by decide +kernel
theorem d_Model_like_49 : decode b_Model_like 49 = .ok (.bipush 45, 2) := by decide +kernel
theorem d_Model_like_51 : decode b_Model_like 51 = .ok (.goto 17, 3) := by decide +kernel
theorem d_Model_like_54 : decode b_Model_like 54 = .ok (.aload_n 0, 1) := by decide +kernel
theorem d_Model_like_55 : decode b_Model_like 55 = .ok (.getfield 20, 3) := by decide +kernel
theorem d_Model_like_58 : decode b_Model_like 58 = .ok (.bipush 40, 2) := by decide +kernel
theorem d_Model_like_60 : decode b_Model_like 60 = .ok (.iload_n 2, 1) := by decide +kernel
theorem d_Model_like_61 : decode b_Model_like 61 = .ok (.imul, 1) := by decide +kernel
theorem d_Model_like_62 : decode b_Model_like 62 = .ok (.iload 5, 2) := by decide +kernel
theorem d_Model_like_64 : decode b_Model_like 64 = .ok (.iadd, 1) := by decide +kernel
theorem d_Model_like_65 : decode b_Model_like 65 = .ok (.iload_n 3, 1) := by decide +kernel
theorem d_Model_like_66 : decode b_Model_like 66 = .ok (.isub, 1) := by decide +kernel
theorem d_Model_like_67 : decode b_Model_like 67 = .ok (.iaload, 1) := by decide +kernel
theorem d_Model_like_68 : decode b_Model_like 68 = .ok (.istore 6, 2) := by decide +kernel
theorem d_Model_like_70 : decode b_Model_like 70 = .ok (.aload_n 0, 1) := by decide +kernel
theorem d_Model_like_71 : decode b_Model_like 71 = .ok (.getfield 20, 3) := by decide +kernel
theorem d_Model_like_74 : decode b_Model_like 74 = .ok (.bipush 40, 2) := by decide +kernel
theorem d_Model_like_76 : decode b_Model_like 76 = .ok (.iload_n 1, 1) := by decide +kernel
theorem d_Model_like_77 : decode b_Model_like 77 = .ok (.imul, 1) := by decide +kernel
theorem d_Model_like_78 : decode b_Model_like 78 = .ok (.iload 5, 2) := by decide +kernel
theorem d_Model_like_80 : decode b_Model_like 80 = .ok (.iadd, 1) := by decide +kernel
theorem d_Model_like_81 : decode b_Model_like 81 = .ok (.iaload, 1) := by decide +kernel
theorem d_Model_like_82 : decode b_Model_like 82 = .ok (.iload 6, 2) := by decide +kernel
theorem d_Model_like_84 : decode b_Model_like 84 = .ok (.if_icmp .ne 7, 3) := by decide +kernel
theorem d_Model_like_87 : decode b_Model_like 87 = .ok (.iconst 1, 1) := by decide +kernel
theorem d_Model_like_88 : decode b_Model_like 88 = .ok (.goto 4, 3) := by decide +kernel
theorem d_Model_like_91 : decode b_Model_like 91 = .ok (.iconst 0, 1) := by decide +kernel
theorem d_Model_like_92 : decode b_Model_like 92 = .ok (.istore 4, 2) := by decide +kernel
theorem d_Model_like_94 : decode b_Model_like 94 = .ok (.iinc 5 1, 3) := by decide +kernel
theorem d_Model_like_97 : decode b_Model_like 97 = .ok (.goto (-70), 3) := by decide +kernel
theorem d_Model_like_100 : decode b_Model_like 100 = .ok (.iload 4, 2) := by decide +kernel
theorem d_Model_like_102 : decode b_Model_like 102 = .ok (.ireturn, 1) := by decide +kernel
theorem d_Model_print_0 : decode b_Model_print 0 = .ok (.aload_n 0, 1) := by decide +kernel
theorem d_Model_print_1 : decode b_Model_print 1 = .ok (.getfield 91, 3) := by decide +kernel
theorem d_Model_print_4 : decode b_Model_print 4 = .ok (.ifCond .ne 5, 3) := by decide +kernel
theorem d_Model_print_7 : decode b_Model_print 7 = .ok (.iconst (-1), 1) := by decide +kernel
theorem d_Model_print_8 : decode b_Model_print 8 = .ok (.ireturn, 1) := by decide +kernel
theorem d_Model_print_9 : decode b_Model_print 9 = .ok (.aload_n 0, 1) := by decide +kernel
theorem d_Model_print_10 : decode b_Model_print 10 = .ok (.iconst 0, 1) := by decide +kernel
theorem d_Model_print_11 : decode b_Model_print 11 = .ok (.putfield 39, 3) := by decide +kernel
theorem d_Model_print_14 : decode b_Model_print 14 = .ok (.aload_n 0, 1) := by decide +kernel
theorem d_Model_print_15 : decode b_Model_print 15 = .ok (.iconst 0, 1) := by decide +kernel
theorem d_Model_print_16 : decode b_Model_print 16 = .ok (.putfield 145, 3) := by decide +kernel
theorem d_Model_print_19 : decode b_Model_print 19 = .ok (.aload_n 0, 1) := by decide +kernel
theorem d_Model_print_20 : decode b_Model_print 20 = .ok (.iconst 0, 1) := by decide +kernel
theorem d_Model_print_21 : decode b_Model_print 21 = .ok (.invokevirtual 169, 3) := by decide +kernel
theorem d_Model_print_24 : decode b_Model_print 24 = .ok (.aload_n 0, 1) := by decide +kernel
theorem d_Model_print_25 : decode b_Model_print 25 = .ok (.invokevirtual 172, 3) := by decide +kernel
theorem d_Model_print_28 : decode b_Model_print 28 = .ok (.aload_n 0, 1) := by decide +kernel
theorem d_Model_print_29 : decode b_Model_print 29 = .ok (.iconst 1, 1) := by decide +kernel
theorem d_Model_print_30 : decode b_Model_print 30 = .ok (.invokevirtual 169, 3) := by decide +kernel
theorem d_Model_print_33 : decode b_Model_print 33 = .ok (.aload_n 0, 1) := by decide +kernel
theorem d_Model_print_34 : decode b_Model_print 34 = .ok (.getfield 27, 3) := by decide +kernel
theorem d_Model_print_37 : decode b_Model_print 37 = .ok (.bipush 6, 2) := by decide +kernel
theorem d_Model_print_39 : decode b_Model_print 39 = .ok (.iaload, 1) := by decide +kernel
theorem d_Model_print_40 : decode b_Model_print 40 = .ok (.iconst 1, 1) := by decide +kernel
theorem d_Model_print_41 : decode b_Model_print 41 = .ok (.if_icmp .ne 45, 3) := by decide +kernel
theorem d_Model_print_44 : decode b_Model_print 44 = .ok (.aload_n 0, 1) := by decide +kernel
theorem d_Model_print_45 : decode b_Model_print 45 = .ok (.iconst 2, 1) := by decide +kernel
theorem d_Model_print_46 : decode b_Model_print 46 = .ok (.iconst 0, 1) := by decide +kernel
theorem d_Model_print_47 : decode b_Model_print 47 = .ok (.iconst 1, 1) := by decide +kernel
theorem d_Model_print_48 : decode b_Model_print 48 = .ok (.invokevirtual 175, 3) := by decide +kernel
theorem d_Model_print_51 : decode b_Model_print 51 = .ok (.ifCond .eq 13, 3) := by decide +kernel
theorem d_Model_print_54 : decode b_Model_print 54 = .ok (.aload_n 0, 1) := by decide +kernel
theorem d_Model_print_55 : decode b_Model_print 55 = .ok (.iconst 3, 1) := by decide +kernel
theorem d_Model_print_56 : decode b_Model_print 56 = .ok (.iconst 1, 1) := by decide +kernel
theorem d_Model_print_57 : decode b_Model_print 57 = .ok (.iconst 0, 1) := by decide +kernel
theorem d_Model_print_58 : decode b_Model_print 58 = .ok (.invokevirtual 175, 3) := by decide +kernel
theorem d_Model_print_61 : decode b_Model_print 61 = .ok (.ifCond .ne 25, 3) := by decide +kernel
theorem d_Model_print_64 : decode b_Model_print 64 = .ok (.aload_n 0, 1) := by decide +kernel
theorem d_Model_print_65 : decode b_Model_print 65 = .ok (.bipush 59, 2) := by decide +kernel
theorem d_Model_print_67 : decode b_Model_print 67 = .ok (.invokevirtual 109, 3) := by decide +kernel
theorem d_Model_print_70 : decode b_Model_print 70 = .ok (.aload_n 0, 1) := by decide +kernel
theorem d_Model_print_71 : decode b_Model_print 71 = .ok (.iconst 2, 1) := by decide +kernel
theorem d_Model_print_72 : decode b_Model_print 72 = .ok (.invokevirtual 169, 3) := by decide +kernel
theorem d_Model_print_75 : decode b_Model_print 75 = .ok (.aload_n 0, 1) := by decide +kernel
theorem d_Model_print_76 : decode b_Model_print 76 = .ok (.bipush 35, 2) := by decide +kernel
theorem d_Model_print_78 : decode b_Model_print 78 = .ok (.invokevirtual 109, 3) := by decide +kernel
theorem d_Model_print_81 : decode b_Model_print 81 = .ok (.aload_n 0, 1) := by decide +kernel
theorem d_Model_print_82 : decode b_Model_print 82 = .ok (.iconst 3, 1) := by decide +kernel
theorem d_Model_print_83 : decode b_Model_print 83 = .ok (.invokevirtual 169, 3) := by decide +kernel
theorem d_Model_print_86 : decode b_Model_print 86 = .ok (.aload_n 0, 1) := by decide +kernel
theorem d_Model_print_87 : decode b_Model_print 87 = .ok (.getfield 39, 3) := by decide +kernel
theorem d_Model_print_90 : decode b_Model_print 90 = .ok (.ireturn, 1) := by decide +kernel
theorem d_Model_digitAt_0 : decode b_Model_digitAt 0 = .ok (.iload_n 1, 1) := by decide +kernel
theorem d_Model_digitAt_1 : decode b_Model_digitAt 1 = .ok (.iload_n 2, 1) := by decide +kernel
theorem d_Model_digitAt_2 : decode b_Model_digitAt 2 = .ok (.if_icmp .ge 29, 3) := by decide +kernel
theorem d_Model_digitAt_5 : decode b_Model_digitAt 5 = .ok (.aload_n 0, 1) := by decide +kernel
theorem d_Model_digitAt_6 : decode b_Model_digitAt 6 = .ok (.getfield 7, 3) := by decide +kernel
theorem d_Model_digitAt_9 : decode b_Model_digitAt 9 = .ok (.iload_n 1, 1) := by decide +kernel
theorem d_Model_digitAt_10 : decode b_Model_digitAt 10 = .ok (.caload, 1) := by decide +kernel
theorem d_Model_digitAt_11 : decode b_Model_digitAt 11 = .ok (.bipush 48, 2) := by decide +kernel
theorem d_Model_digitAt_13 : decode b_Model_digitAt 13 = .ok (.if_icmp .lt 18, 3) := by decide +kernel
theorem d_Model_digitAt_16 : decode b_Model_digitAt 16 = .ok (.aload_n 0, 1) := by decide +kernel
theorem d_Model_digitAt_17 : decode b_Model_digitAt 17 = .ok (.getfield 7, 3) := by decide +kernel
theorem d_Model_digitAt_20 : decode b_Model_digitAt 20 = .ok (.iload_n 1, 1) := by decide +kernel
theorem d_Model_digitAt_21 : decode b_Model_digitAt 21 = .ok (.caload, 1) := by decide +kernel
theorem d_Model_digitAt_22 : decode b_Model_digitAt 22 = .ok (.bipush 57, 2) := by decide +kernel
theorem d_Model_digitAt_24 : decode b_Model_digitAt 24 = .ok (.if_icmp .gt 7, 3) := by decide +kernel
theorem d_Model_digitAt_27 : decode b_Model_digitAt 27 = .ok (.iconst 1, 1) := by decide +kernel
theorem d_Model_digitAt_28 : decode b_Model_digitAt 28 = .ok (.goto 4, 3) := by decide +kernel
theorem d_Model_digitAt_31 : decode b_Model_digitAt 31 = .ok (.iconst 0, 1) := by decide +kernel
theorem d_Model_digitAt_32 : decode b_Model_digitAt 32 = .ok (.ireturn, 1) := by decide +kernel
theorem d_Model_body_0 : decode b_Model_body 0 = .ok (.lconst 0, 1) := by decide +kernel
theorem d_Model_body_1 : decode b_Model_body 1 = .ok (.lstore_n 3, 1) := by decide +kernel
theorem d_Model_body_2 : decode b_Model_body 2 = .ok (.iconst 0, 1) := by decide +kernel
theorem d_Model_body_3 : decode b_Model_body 3 = .ok (.istore 5, 2) := by decide +kernel
theorem d_Model_body_5 : decode b_Model_body 5 = .ok (.iconst 0, 1) := by decide +kernel
theorem d_Model_body_6 : decode b_Model_body 6 = .ok (.istore 6, 2) := by decide +kernel
theorem d_Model_body_8 : decode b_Model_body 8 = .ok (.iconst 0, 1) := by decide +kernel
theorem d_Model_body_9 : decode b_Model_body 9 = .ok (.istore 7, 2) := by decide +kernel
theorem d_Model_body_11 : decode b_Model_body 11 = .ok (.iconst 0, 1) := by decide +kernel
theorem d_Model_body_12 : decode b_Model_body 12 = .ok (.istore 8, 2) := by decide +kernel
theorem d_Model_body_14 : decode b_Model_body 14 = .ok (.iconst 0, 1) := by decide +kernel
theorem d_Model_body_15 : decode b_Model_body 15 = .ok (.istore 9, 2) := by decide +kernel
theorem d_Model_body_17 : decode b_Model_body 17 = .ok (.iload_n 1, 1) := by decide +kernel
theorem d_Model_body_18 : decode b_Model_body 18 = .ok (.istore 10, 2) := by decide +kernel
theorem d_Model_body_20 : decode b_Model_body 20 = .ok (.aload_n 0, 1) := by decide +kernel
theorem d_Model_body_21 : decode b_Model_body 21 = .ok (.iconst 0, 1) := by decide +kernel
theorem d_Model_body_22 : decode b_Model_body 22 = .ok (.putfield 179, 3) := by decide +kernel
theorem d_Model_body_25 : decode b_Model_body 25 = .ok (.iconst 1, 1) := by decide +kernel
theorem d_Model_body_26 : decode b_Model_body 26 = .ok (.istore 11, 2) := by decide +kernel
theorem d_Model_body_28 : decode b_Model_body 28 = .ok (.iload 11, 2) := by decide +kernel
theorem d_Model_body_30 : decode b_Model_body 30 = .ok (.ifCond .eq 295, 3) := by decide +kernel
theorem d_Model_body_33 : decode b_Model_body 33 = .ok (.aload_n 0, 1) := by decide +kernel
theorem d_Model_body_34 : decode b_Model_body 34 = .ok (.iload 10, 2) := by decide +kernel
theorem d_Model_body_36 : decode b_Model_body 36 = .ok (.iload_n 2, 1) := by decide +kernel
theorem d_Model_body_37 : decode b_Model_body 37 = .ok (.invokevirtual 182, 3) := by decide +kernel
theorem d_Model_body_40 : decode b_Model_body 40 = .ok (.ifCond .eq 156, 3) := by decide +kernel
theorem d_Model_body_43 : decode b_Model_body 43 = .ok (.aload_n 0, 1) := by decide +kernel
theorem d_Model_body_44 : decode b_Model_body 44 = .ok (.getfield 7, 3) := by decide +kernel
theorem d_Model_body_47 : decode b_Model_body 47 = .ok (.iload 10, 2) := by decide +kernel
theorem d_Model_body_49 : decode b_Model_body 49 = .ok (.caload, 1) := by decide +kernel
theorem d_Model_body_50 : decode b_Model_body 50 = .ok (.bipush 48, 2) := by decide +kernel
theorem d_Model_body_52 : decode b_Model_body 52 = .ok (.isub, 1) := by decide +kernel
theorem d_Model_body_53 : decode b_Model_body 53 = .ok (.istore 12, 2) := by decide +kernel
theorem d_Model_body_55 : decode b_Model_body 55 = .ok (.iload 8, 2) := by decide +kernel
theorem d_Model_body_57 : decode b_Model_body 57 = .ok (.iconst 1, 1) := by decide +kernel
theorem d_Model_body_58 : decode b_Model_body 58 = .ok (.iadd, 1) := by decide +kernel
theorem d_Model_body_59 : decode b_Model_body 59 = .ok (.istore 8, 2) := by decide +kernel
theorem d_Model_body_61 : decode b_Model_body 61 = .ok (.iload 9, 2) := by decide +kernel
theorem d_Model_body_63 : decode b_Model_body 63 = .ok (.ifCond .eq 10, 3) := by decide +kernel
theorem d_Model_body_66 : decode b_Model_body 66 = .ok (.iload 7, 2) := by decide +kernel
theorem d_Model_body_68 : decode b_Model_body 68 = .ok (.iconst 1, 1) := by decide +kernel
theorem d_Model_body_69 : decode b_Model_body 69 = .ok (.iadd, 1) := by decide +kernel
theorem d_Model_body_70 : decode b_Model_body 70 = .ok (.goto 5, 3) := by decide +kernel
theorem d_Model_body_73 : decode b_Model_body 73 = .ok (.iload 7, 2) := by decide +kernel
theorem d_Model_body_75 : decode b_Model_body 75 = .ok (.istore 7, 2) := by decide +kernel
theorem d_Model_body_77 : decode b_Model_body 77 = .ok (.iload 12, 2) := by decide +kernel
theorem d_Model_body_79 : decode b_Model_body 79 = .ok (.ifCond .ne 10, 3) := by decide +kernel
theorem d_Model_body_82 : decode b_Model_body 82 = .ok (.iload 6, 2) := by decide +kernel
theorem d_Model_body_84 : decode b_Model_body 84 = .ok (.iconst 1, 1) := by decide +kernel
theorem d_Model_body_85 : decode b_Model_body 85 = .ok (.iadd, 1) := by decide +kernel
theorem d_Model_body_86 : decode b_Model_body 86 = .ok (.goto 5, 3) := by decide +kernel
theorem d_Model_body_89 : decode b_Model_body 89 = .ok (.iload 6, 2) := by decide +kernel
theorem d_Model_body_91 : decode b_Model_body 91 = .ok (.istore 6, 2) := by decide +kernel
theorem d_Model_body_93 : decode b_Model_body 93 = .ok (.iload 12, 2) := by decide +kernel
theorem d_Model_body_95 : decode b_Model_body 95 = .ok (.ifCond .le 98, 3) := by decide +kernel
theorem d_Model_body_98 : decode b_Model_body 98 = .ok (.lload_n 3, 1) := by decide +kernel
theorem d_Model_body_99 : decode b_Model_body 99 = .ok (.lconst 0, 1) := by decide +kernel
theorem d_Model_body_100 : decode b_Model_body 100 = .ok (.lcmp, 1) := by decide +kernel
theorem d_Model_body_101 : decode b_Model_body 101 = .ok (.ifCond .ne 7, 3) := by decide +kernel
theorem d_Model_body_104 : decode b_Model_body 104 = .ok (.iconst 0, 1) := by decide +kernel
theorem d_Model_body_105 : decode b_Model_body 105 = .ok (.goto 5, 3) := by decide +kernel
theorem d_Model_body_108 : decode b_Model_body 108 = .ok (.iload 6, 2) := by decide +kernel
theorem d_Model_body_110 : decode b_Model_body 110 = .ok (.istore 6, 2) := by decide +kernel
theorem d_Model_body_112 : decode b_Model_body 112 = .ok (.iload 5, 2) := by decide +kernel
theorem d_Model_body_114 : decode b_Model_body 114 = .ok (.iload 6, 2) := by decide +kernel
theorem d_Model_body_116 : decode b_Model_body 116 = .ok (.iadd, 1) := by decide +kernel
theorem d_Model_body_117 : decode b_Model_body 117 = .ok (.iconst 1, 1) := by decide +kernel
theorem d_Model_body_118 : decode b_Model_body 118 = .ok (.iadd, 1) := by decide +kernel
theorem d_Model_body_119 : decode b_Model_body 119 = .ok (.istore 5, 2) := by decide +kernel
theorem d_Model_body_121 : decode b_Model_body 121 = .ok (.aload_n 0, 1) := by decide +kernel
theorem d_Model_body_122 : decode b_Model_body 122 = .ok (.aload_n 0, 1) := by decide +kernel
theorem d_Model_body_123 : decode b_Model_body 123 = .ok (.getfield 179, 3) := by decide +kernel
theorem d_Model_body_126 : decode b_Model_body 126 = .ok (.ifCond .ne 10, 3) := by decide +kernel
theorem d_Model_body_129 : decode b_Model_body 129 = .ok (.iload 5, 2) := by decide +kernel
theorem d_Model_body_131 : decode b_Model_body 131 = .ok (.bipush 17, 2) := by decide +kernel
theorem d_Model_body_133 : decode b_Model_body 133 = .ok (.if_icmp .le 7, 3) := by decide +kernel
theorem d_Model_body_136 : decode b_Model_body 136 = .ok (.iconst 1, 1) := by decide +kernel
theorem d_Model_body_137 : decode b_Model_body 137 = .ok (.goto 4, 3) := by decide +kernel
theorem d_Model_body_140 : decode b_Model_body 140 = .ok (.iconst 0, 1) := by decide +kernel
theorem d_Model_body_141 : decode b_Model_body 141 = .ok (.putfield 179, 3) := by decide +kernel
theorem d_Model_body_144 : decode b_Model_body 144 = .ok (.iconst 0, 1) := by decide +kernel
theorem d_Model_body_145 : decode b_Model_body 145 = .ok (.istore 13, 2) := by decide +kernel
theorem d_Model_body_147 : decode b_Model_body 147 = .ok (.iload 13, 2) := by decide +kernel
theorem d_Model_body_149 : decode b_Model_body 149 = .ok (.iload 6, 2) := by decide +kernel
theorem d_Model_body_151 : decode b_Model_body 151 = .ok (.if_icmp .gt 22, 3) := by decide +kernel
theorem d_Model_body_154 : decode b_Model_body 154 = .ok (.aload_n 0, 1) := by decide +kernel
theorem d_Model_body_155 : decode b_Model_body 155 = .ok (.getfield 179, 3) := by decide +kernel
theorem d_Model_body_158 : decode b_Model_body 158 = .ok (.ifCond .ne 15, 3) := by decide +kernel
theorem d_Model_body_161 : decode b_Model_body 161 = .ok (.lload_n 3, 1) := by decide +kernel
theorem d_Model_body_162 : decode b_Model_body 162 = .ok (.ldc2_w 117, 3) := by decide +kernel
theorem d_Model_body_165 : decode b_Model_body 165 = .ok (.lmul, 1) := by decide +kernel
theorem d_Model_body_166 : decode b_Model_body 166 = .ok (.lstore_n 3, 1) := by decide +kernel
theorem d_Model_body_167 : decode b_Model_body 167 = .ok (.iinc 13 1, 3) := by decide +kernel
theorem d_Model_body_170 : decode b_Model_body 170 = .ok (.goto (-23), 3) := by decide +kernel
theorem d_Model_body_173 : decode b_Model_body 173 = .ok (.aload_n 0, 1) := by decide +kernel
theorem d_Model_body_174 : decode b_Model_body 174 = .ok (.getfield 179, 3) := by decide +kernel
theorem d_Model_body_177 : decode b_Model_body 177 = .ok (.ifCond .eq 7, 3) := by decide +kernel
theorem d_Model_body_180 : decode b_Model_body 180 = .ok (.lload_n 3, 1) := by decide +kernel
theorem d_Model_body_181 : decode b_Model_body 181 = .ok (.goto 8, 3) := by decide +kernel
theorem d_Model_body_184 : decode b_Model_body 184 = .ok (.lload_n 3, 1) := by decide +kernel
theorem d_Model_body_185 : decode b_Model_body 185 = .ok (.iload 12, 2) := by decide +kernel
theorem d_Model_body_187 : decode b_Model_body 187 = .ok (.i2l, 1) := by decide +kernel
theorem d_Model_body_188 : decode b_Model_body 188 = .ok (.ladd, 1) := by decide +kernel
theorem d_Model_body_189 : decode b_Model_body 189 = .ok (.lstore_n 3, 1) := by decide +kernel
theorem d_Model_body_190 : decode b_Model_body 190 = .ok (.iconst 0, 1) := by decide +kernel
theorem d_Model_body_191 : decode b_Model_body 191 = .ok (.istore 6, 2) := by decide +kernel
theorem d_Model_body_193 : decode b_Model_body 193 = .ok (.goto 113, 3) := by decide +kernel
theorem d_Model_body_196 : decode b_Model_body 196 = .ok (.iload 10, 2) := by decide +kernel
theorem d_Model_body_198 : decode b_Model_body 198 = .ok (.iload_n 2, 1) := by decide +kernel
theorem d_Model_body_199 : decode b_Model_body 199 = .ok (.if_icmp .ge 26, 3) := by decide +kernel
theorem d_Model_body_202 : decode b_Model_body 202 = .ok (.aload_n 0, 1) := by decide +kernel
theorem d_Model_body_203 : decode b_Model_body 203 = .ok (.getfield 7, 3) := by decide +kernel
theorem d_Model_body_206 : decode b_Model_body 206 = .ok (.iload 10, 2) := by decide +kernel
theorem d_Model_body_208 : decode b_Model_body 208 = .ok (.caload, 1) := by decide +kernel
theorem d_Model_body_209 : decode b_Model_body 209 = .ok (.bipush 46, 2) := by decide +kernel
theorem d_Model_body_211 : decode b_Model_body 211 = .ok (.if_icmp .ne 14, 3) := by decide +kernel
theorem d_Model_body_214 : decode b_Model_body 214 = .ok (.iload 9, 2) := by decide +kernel
theorem d_Model_body_216 : decode b_Model_body 216 = .ok (.ifCond .ne 9, 3) := by decide +kernel
theorem d_Model_body_219 : decode b_Model_body 219 = .ok (.iconst 1, 1) := by decide +kernel
theorem d_Model_body_220 : decode b_Model_body 220 = .ok (.istore 9, 2) := by decide +kernel
theorem d_Model_body_222 : decode b_Model_body 222 = .ok (.goto 84, 3) := by decide +kernel
theorem d_Model_body_225 : decode b_Model_body 225 = .ok (.iload 10, 2) := by decide +kernel
theorem d_Model_body_227 : decode b_Model_body 227 = .ok (.iload_n 1, 1) := by decide +kernel
theorem d_Model_body_228 : decode b_Model_body 228 = .ok (.if_icmp .le 31, 3) := by decide +kernel
theorem d_Model_body_231 : decode b_Model_body 231 = .ok (.aload_n 0, 1) := by decide +kernel
theorem d_Model_body_232 : decode b_Model_body 232 = .ok (.iload 10, 2) := by decide +kernel
theorem d_Model_body_234 : decode b_Model_body 234 = .ok (.iconst 1, 1) := by decide +kernel
theorem d_Model_body_235 : decode b_Model_body 235 = .ok (.isub, 1) := by decide +kernel
theorem d_Model_body_236 : decode b_Model_body 236 = .ok (.iload_n 2, 1) := by decide +kernel
theorem d_Model_body_237 : decode b_Model_body 237 = .ok (.invokevirtual 182, 3) := by decide +kernel
theorem d_Model_body_240 : decode b_Model_body 240 = .ok (.ifCond .eq 19, 3) := by decide +kernel
theorem d_Model_body_243 : decode b_Model_body 243 = .ok (.aload_n 0, 1) := by decide +kernel
theorem d_Model_body_244 : decode b_Model_body 244 = .ok (.iload 10, 2) := by decide +kernel
theorem d_Model_body_246 : decode b_Model_body 246 = .ok (.iconst 1, 1) := by decide +kernel
theorem d_Model_body_247 : decode b_Model_body 247 = .ok (.iadd, 1) := by decide +kernel
theorem d_Model_body_248 : decode b_Model_body 248 = .ok (.iload_n 2, 1) := by decide +kernel
theorem d_Model_body_249 : decode b_Model_body 249 = .ok (.invokevirtual 182, 3) := by decide +kernel
theorem d_Model_body_252 : decode b_Model_body 252 = .ok (.ifCond .eq 7, 3) := by decide +kernel
theorem d_Model_body_255 : decode b_Model_body 255 = .ok (.iconst 1, 1) := by decide +kernel
theorem d_Model_body_256 : decode b_Model_body 256 = .ok (.goto 4, 3) := by decide +kernel
theorem d_Model_body_259 : decode b_Model_body 259 = .ok (.iconst 0, 1) := by decide +kernel
theorem d_Model_body_260 : decode b_Model_body 260 = .ok (.istore 12, 2) := by decide +kernel
theorem d_Model_body_262 : decode b_Model_body 262 = .ok (.iload 10, 2) := by decide +kernel
theorem d_Model_body_264 : decode b_Model_body 264 = .ok (.iload_n 2, 1) := by decide +kernel
theorem d_Model_body_265 : decode b_Model_body 265 = .ok (.if_icmp .ge 38, 3) := by decide +kernel
theorem d_Model_body_268 : decode b_Model_body 268 = .ok (.aload_n 0, 1) := by decide +kernel
theorem d_Model_body_269 : decode b_Model_body 269 = .ok (.getfield 7, 3) := by decide +kernel
theorem d_Model_body_272 : decode b_Model_body 272 = .ok (.iload 10, 2) := by decide +kernel
theorem d_Model_body_274 : decode b_Model_body 274 = .ok (.caload, 1) := by decide +kernel
theorem d_Model_body_275 : decode b_Model_body 275 = .ok (.bipush 44, 2) := by decide +kernel
theorem d_Model_body_277 : decode b_Model_body 277 = .ok (.if_icmp .ne 26, 3) := by decide +kernel
theorem d_Model_body_280 : decode b_Model_body 280 = .ok (.aload_n 0, 1) := by decide +kernel
theorem d_Model_body_281 : decode b_Model_body 281 = .ok (.getfield 27, 3) := by decide +kernel
theorem d_Model_body_284 : decode b_Model_body 284 = .ok (.iconst 3, 1) := by decide +kernel
theorem d_Model_body_285 : decode b_Model_body 285 = .ok (.iaload, 1) := by decide +kernel
theorem d_Model_body_286 : decode b_Model_body 286 = .ok (.ifCond .le 17, 3) := by decide +kernel
theorem d_Model_body_289 : decode b_Model_body 289 = .ok (.iload 9, 2) := by decide +kernel
theorem d_Model_body_291 : decode b_Model_body 291 = .ok (.ifCond .ne 12, 3) := by decide +kernel
theorem d_Model_body_294 : decode b_Model_body 294 = .ok (.iload 12, 2) := by decide +kernel
theorem d_Model_body_296 : decode b_Model_body 296 = .ok (.ifCond .eq 7, 3) := by decide +kernel
theorem d_Model_body_299 : decode b_Model_body 299 = .ok (.iconst 1, 1) := by decide +kernel
theorem d_Model_body_300 : decode b_Model_body 300 = .ok (.goto 4, 3) := by decide +kernel
theorem d_Model_body_303 : decode b_Model_body 303 = .ok (.iconst 0, 1) := by decide +kernel
theorem d_Model_body_304 : decode b_Model_body 304 = .ok (.istore 11, 2) := by decide +kernel
theorem d_Model_body_306 : decode b_Model_body 306 = .ok (.iload 11, 2) := by decide +kernel
theorem d_Model_body_308 : decode b_Model_body 308 = .ok (.ifCond .eq 10, 3) := by decide +kernel
theorem d_Model_body_311 : decode b_Model_body 311 = .ok (.iload 10, 2) := by decide +kernel
theorem d_Model_body_313 : decode b_Model_body 313 = .ok (.iconst 1, 1) := by decide +kernel
theorem d_Model_body_314 : decode b_Model_body 314 = .ok (.iadd, 1) := by decide +kernel
theorem d_Model_body_315 : decode b_Model_body 315 = .ok (.goto 5, 3) := by decide +kernel
theorem d_Model_body_318 : decode b_Model_body 318 = .ok (.iload 10, 2) := by decide +kernel
theorem d_Model_body_320 : decode b_Model_body 320 = .ok (.istore 10, 2) := by decide +kernel
theorem d_Model_body_322 : decode b_Model_body 322 = .ok (.goto (-294), 3) := by decide +kernel
theorem d_Model_body_325 : decode b_Model_body 325 = .ok (.iconst 0, 1) := by decide +kernel
theorem d_Model_body_326 : decode b_Model_body 326 = .ok (.istore 12, 2) := by decide +kernel
theorem d_Model_body_328 : decode b_Model_body 328 = .ok (.iload 8, 2) := by decide +kernel
theorem d_Model_body_330 : decode b_Model_body 330 = .ok (.ifCond .le 7, 3) := by decide +kernel
theorem d_Model_body_333 : decode b_Model_body 333 = .ok (.iconst 1, 1) := by decide +kernel
theorem d_Model_body_334 : decode b_Model_body 334 = .ok (.goto 4, 3) := by decide +kernel
theorem d_Model_body_337 : decode b_Model_body 337 = .ok (.iconst 0, 1) := by decide +kernel
theorem d_Model_body_338 : decode b_Model_body 338 = .ok (.istore 13, 2) := by decide +kernel
theorem d_Model_body_340 : decode b_Model_body 340 = .ok (.iload 13, 2) := by decide +kernel
theorem d_Model_body_342 : decode b_Model_body 342 = .ok (.ifCond .eq 168, 3) := by decide +kernel
theorem d_Model_body_345 : decode b_Model_body 345 = .ok (.aload_n 0, 1) := by decide +kernel
theorem d_Model_body_346 : decode b_Model_body 346 = .ok (.getfield 27, 3) := by decide +kernel
theorem d_Model_body_349 : decode b_Model_body 349 = .ok (.iconst 4, 1) := by decide +kernel
theorem d_Model_body_350 : decode b_Model_body 350 = .ok (.iaload, 1) := by decide +kernel
theorem d_Model_body_351 : decode b_Model_body 351 = .ok (.ifCond .le 159, 3) := by decide +kernel
theorem d_Model_body_354 : decode b_Model_body 354 = .ok (.iload 10, 2) := by decide +kernel
theorem d_Model_body_356 : decode b_Model_body 356 = .ok (.iload_n 2, 1) := by decide +kernel
theorem d_Model_body_357 : decode b_Model_body 357 = .ok (.if_icmp .ge 19, 3) := by decide +kernel
theorem d_Model_body_360 : decode b_Model_body 360 = .ok (.aload_n 0, 1) := by decide +kernel
theorem d_Model_body_361 : decode b_Model_body 361 = .ok (.getfield 7, 3) := by decide +kernel
theorem d_Model_body_364 : decode b_Model_body 364 = .ok (.iload 10, 2) := by decide +kernel
theorem d_Model_body_366 : decode b_Model_body 366 = .ok (.caload, 1) := by decide +kernel
theorem d_Model_body_367 : decode b_Model_body 367 = .ok (.bipush 69, 2) := by decide +kernel
theorem d_Model_body_369 : decode b_Model_body 369 = .ok (.if_icmp .ne 7, 3) := by decide +kernel
theorem d_Model_body_372 : decode b_Model_body 372 = .ok (.iconst 1, 1) := by decide +kernel
theorem d_Model_body_373 : decode b_Model_body 373 = .ok (.goto 4, 3) := by decide +kernel
theorem d_Model_body_376 : decode b_Model_body 376 = .ok (.iconst 0, 1) := by decide +kernel
theorem d_Model_body_377 : decode b_Model_body 377 = .ok (.istore 13, 2) := by decide +kernel
theorem d_Model_body_379 : decode b_Model_body 379 = .ok (.iload 10, 2) := by decide +kernel
theorem d_Model_body_381 : decode b_Model_body 381 = .ok (.iconst 1, 1) := by decide +kernel
theorem d_Model_body_382 : decode b_Model_body 382 = .ok (.iadd, 1) := by decide +kernel
theorem d_Model_body_383 : decode b_Model_body 383 = .ok (.istore 10, 2) := by decide +kernel
theorem d_Model_body_385 : decode b_Model_body 385 = .ok (.iload 10, 2) := by decide +kernel
theorem d_Model_body_387 : decode b_Model_body 387 = .ok (.iload_n 2, 1) := by decide +kernel
theorem d_Model_body_388 : decode b_Model_body 388 = .ok (.if_icmp .ge 19, 3) := by decide +kernel
theorem d_Model_body_391 : decode b_Model_body 391 = .ok (.aload_n 0, 1) := by decide +kernel
theorem d_Model_body_392 : decode b_Model_body 392 = .ok (.getfield 7, 3) := by decide +kernel
theorem d_Model_body_395 : decode b_Model_body 395 = .ok (.iload 10, 2) := by decide +kernel
theorem d_Model_body_397 : decode b_Model_body 397 = .ok (.caload, 1) := by decide +kernel
theorem d_Model_body_398 : decode b_Model_body 398 = .ok (.bipush 45, 2) := by decide +kernel
theorem d_Model_body_400 : decode b_Model_body 400 = .ok (.if_icmp .ne 7, 3) := by decide +kernel
theorem d_Model_body_403 : decode b_Model_body 403 = .ok (.iconst 1, 1) := by decide +kernel
theorem d_Model_body_404 : decode b_Model_body 404 = .ok (.goto 4, 3) := by decide +kernel
theorem d_Model_body_407 : decode b_Model_body 407 = .ok (.iconst 0, 1) := by decide +kernel
theorem d_Model_body_408 : decode b_Model_body 408 = .ok (.istore 14, 2) := by decide +kernel
theorem d_Model_body_410 : decode b_Model_body 410 = .ok (.iload 14, 2) := by decide +kernel
theorem d_Model_body_412 : decode b_Model_body 412 = .ok (.ifCond .eq 10, 3) := by decide +kernel
theorem d_Model_body_415 : decode b_Model_body 415 = .ok (.iload 10, 2) := by decide +kernel
theorem d_Model_body_417 : decode b_Model_body 417 = .ok (.iconst 1, 1) := by decide +kernel
theorem d_Model_body_418 : decode b_Model_body 418 = .ok (.iadd, 1) := by decide +kernel
theorem d_Model_body_419 : decode b_Model_body 419 = .ok (.goto 5, 3) := by decide +kernel
theorem d_Model_body_422 : decode b_Model_body 422 = .ok (.iload 10, 2) := by decide +kernel
theorem d_Model_body_424 : decode b_Model_body 424 = .ok (.istore 10, 2) := by decide +kernel
theorem d_Model_body_426 : decode b_Model_body 426 = .ok (.iconst 0, 1) := by decide +kernel
theorem d_Model_body_427 : decode b_Model_body 427 = .ok (.istore 15, 2) := by decide +kernel
theorem d_Model_body_429 : decode b_Model_body 429 = .ok (.aload_n 0, 1) := by decide +kernel
theorem d_Model_body_430 : decode b_Model_body 430 = .ok (.iload 10, 2) := by decide +kernel
theorem d_Model_body_432 : decode b_Model_body 432 = .ok (.iload_n 2, 1) := by decide +kernel
theorem d_Model_body_433 : decode b_Model_body 433 = .ok (.invokevirtual 182, 3) := by decide +kernel
theorem d_Model_body_436 : decode b_Model_body 436 = .ok (.ifCond .eq 42, 3) := by decide +kernel
theorem d_Model_body_439 : decode b_Model_body 439 = .ok (.iload 15, 2) := by decide +kernel
theorem d_Model_body_441 : decode b_Model_body 441 = .ok (.iconst 3, 1) := by decide +kernel
theorem d_Model_body_442 : decode b_Model_body 442 = .ok (.if_icmp .ge 36, 3) := by decide +kernel
theorem d_Model_body_445 : decode b_Model_body 445 = .ok (.bipush 10, 2) := by decide +kernel
theorem d_Model_body_447 : decode b_Model_body 447 = .ok (.iload 12, 2) := by decide +kernel
theorem d_Model_body_449 : decode b_Model_body 449 = .ok (.imul, 1) := by decide +kernel
theorem d_Model_body_450 : decode b_Model_body 450 = .ok (.aload_n 0, 1) := by decide +kernel
theorem d_Model_body_451 : decode b_Model_body 451 = .ok (.getfield 7, 3) := by decide +kernel
theorem d_Model_body_454 : decode b_Model_body 454 = .ok (.iload 10, 2) := by decide +kernel
theorem d_Model_body_456 : decode b_Model_body 456 = .ok (.caload, 1) := by decide +kernel
theorem d_Model_body_457 : decode b_Model_body 457 = .ok (.iadd, 1) := by decide +kernel
theorem d_Model_body_458 : decode b_Model_body 458 = .ok (.bipush 48, 2) := by decide +kernel
theorem d_Model_body_460 : decode b_Model_body 460 = .ok (.isub, 1) := by decide +kernel
theorem d_Model_body_461 : decode b_Model_body 461 = .ok (.istore 12, 2) := by decide +kernel
theorem d_Model_body_463 : decode b_Model_body 463 = .ok (.iload 15, 2) := by decide +kernel
theorem d_Model_body_465 : decode b_Model_body 465 = .ok (.iconst 1, 1) := by decide +kernel
theorem d_Model_body_466 : decode b_Model_body 466 = .ok (.iadd, 1) := by decide +kernel
theorem d_Model_body_467 : decode b_Model_body 467 = .ok (.istore 15, 2) := by decide +kernel
theorem d_Model_body_469 : decode b_Model_body 469 = .ok (.iload 10, 2) := by decide +kernel
theorem d_Model_body_471 : decode b_Model_body 471 = .ok (.iconst 1, 1) := by decide +kernel
theorem d_Model_body_472 : decode b_Model_body 472 = .ok (.iadd, 1) := by decide +kernel
theorem d_Model_body_473 : decode b_Model_body 473 = .ok (.istore 10, 2) := by decide +kernel
theorem d_Model_body_475 : decode b_Model_body 475 = .ok (.goto (-46), 3) := by decide +kernel
theorem d_Model_body_478 : decode b_Model_body 478 = .ok (.iload 14, 2) := by decide +kernel
theorem d_Model_body_480 : decode b_Model_body 480 = .ok (.ifCond .eq 9, 3) := by decide +kernel
theorem d_Model_body_483 : decode b_Model_body 483 = .ok (.iload 12, 2) := by decide +kernel
theorem d_Model_body_485 : decode b_Model_body 485 = .ok (.ineg, 1) := by decide +kernel
theorem d_Model_body_486 : decode b_Model_body 486 = .ok (.goto 5, 3) := by decide +kernel
theorem d_Model_body_489 : decode b_Model_body 489 = .ok (.iload 12, 2) := by decide +kernel
theorem d_Model_body_491 : decode b_Model_body 491 = .ok (.istore 12, 2) := by decide +kernel
theorem d_Model_body_493 : decode b_Model_body 493 = .ok (.iload 13, 2) := by decide +kernel
theorem d_Model_body_495 : decode b_Model_body 495 = .ok (.ifCond .eq 12, 3) := by decide +kernel
theorem d_Model_body_498 : decode b_Model_body 498 = .ok (.iload 15, 2) := by decide +kernel
theorem d_Model_body_500 : decode b_Model_body 500 = .ok (.ifCond .le 7, 3) := by decide +kernel
theorem d_Model_body_503 : decode b_Model_body 503 = .ok (.iconst 1, 1) := by decide +kernel
theorem d_Model_body_504 : decode b_Model_body 504 = .ok (.goto 4, 3) := by decide +kernel
theorem d_Model_body_507 : decode b_Model_body 507 = .ok (.iconst 0, 1) := by decide +kernel
theorem d_Model_body_508 : decode b_Model_body 508 = .ok (.istore 13, 2) := by decide +kernel
theorem d_Model_body_510 : decode b_Model_body 510 = .ok (.aload_n 0, 1) := by decide +kernel
theorem d_Model_body_511 : decode b_Model_body 511 = .ok (.lload_n 3, 1) := by decide +kernel
theorem d_Model_body_512 : decode b_Model_body 512 = .ok (.putfield 186, 3) := by decide +kernel
theorem d_Model_body_515 : decode b_Model_body 515 = .ok (.aload_n 0, 1) := by decide +kernel
theorem d_Model_body_516 : decode b_Model_body 516 = .ok (.lload_n 3, 1) := by decide +kernel
theorem d_Model_body_517 : decode b_Model_body 517 = .ok (.lconst 0, 1) := by decide +kernel
theorem d_Model_body_518 : decode b_Model_body 518 = .ok (.lcmp, 1) := by decide +kernel
theorem d_Model_body_519 : decode b_Model_body 519 = .ok (.ifCond .ne 14, 3) := by decide +kernel
theorem d_Model_body_522 : decode b_Model_body 522 = .ok (.aload_n 0, 1) := by decide +kernel
theorem d_Model_body_523 : decode b_Model_body 523 = .ok (.getfield 179, 3) := by decide +kernel
theorem d_Model_body_526 : decode b_Model_body 526 = .ok (.ifCond .ne 7, 3) := by decide +kernel
theorem d_Model_body_529 : decode b_Model_body 529 = .ok (.iconst 0, 1) := by decide +kernel
theorem d_Model_body_530 : decode b_Model_body 530 = .ok (.goto 28, 3) := by decide +kernel
theorem d_Model_body_533 : decode b_Model_body 533 = .ok (.iload 7, 2) := by decide +kernel
theorem d_Model_body_535 : decode b_Model_body 535 = .ok (.iload 6, 2) := by decide +kernel
theorem d_Model_body_537 : decode b_Model_body 537 = .ok (.isub, 1) := by decide +kernel
theorem d_Model_body_538 : decode b_Model_body 538 = .ok (.iload 12, 2) := by decide +kernel
theorem d_Model_body_540 : decode b_Model_body 540 = .ok (.isub, 1) := by decide +kernel
theorem d_Model_body_541 : decode b_Model_body 541 = .ok (.aload_n 0, 1) := by decide +kernel
theorem d_Model_body_542 : decode b_Model_body 542 = .ok (.getfield 27, 3) := by decide +kernel
theorem d_Model_body_545 : decode b_Model_body 545 = .ok (.iconst 5, 1) := by decide +kernel
theorem d_Model_body_546 : decode b_Model_body 546 = .ok (.iaload, 1) := by decide +kernel
theorem d_Model_body_547 : decode b_Model_body 547 = .ok (.bipush 100, 2) := by decide +kernel
theorem d_Model_body_549 : decode b_Model_body 549 = .ok (.if_icmp .ne 7, 3) := by decide +kernel
theorem d_Model_body_552 : decode b_Model_body 552 = .ok (.iconst 2, 1) := by decide +kernel
theorem d_Model_body_553 : decode b_Model_body 553 = .ok (.goto 4, 3) := by decide +kernel
theorem d_Model_body_556 : decode b_Model_body 556 = .ok (.iconst 0, 1) := by decide +kernel
theorem d_Model_body_557 : decode b_Model_body 557 = .ok (.iadd, 1) := by decide +kernel
theorem d_Model_body_558 : decode b_Model_body 558 = .ok (.putfield 190, 3) := by decide +kernel
theorem d_Model_body_561 : decode b_Model_body 561 = .ok (.iload 13, 2) := by decide +kernel
theorem d_Model_body_563 : decode b_Model_body 563 = .ok (.ifCond .eq 13, 3) := by decide +kernel
theorem d_Model_body_566 : decode b_Model_body 566 = .ok (.iload 10, 2) := by decide +kernel
theorem d_Model_body_568 : decode b_Model_body 568 = .ok (.iload_n 2, 1) := by decide +kernel
theorem d_Model_body_569 : decode b_Model_body 569 = .ok (.if_icmp .ne 7, 3) := by decide +kernel
theorem d_Model_body_572 : decode b_Model_body 572 = .ok (.iconst 1, 1) := by decide +kernel
theorem d_Model_body_573 : decode b_Model_body 573 = .ok (.goto 4, 3) := by decide +kernel
theorem d_Model_body_576 : decode b_Model_body 576 = .ok (.iconst 0, 1) := by decide +kernel
theorem d_Model_body_577 : decode b_Model_body 577 = .ok (.ireturn, 1) := by decide +kernel
end
section
theorem d_Model_ofSign_0 : decode b_Model_ofSign 0 = .ok (.aload_n 0, 1) := by decide +kernel
theorem d_Model_ofSign_1 : decode b_Model_ofSign 1 = .ok (.iload_n 1, 1) := by decide +kernel
theorem d_Model_ofSign_2 : decode b_Model_ofSign 2 = .ok (.iconst 0, 1) := by decide +kernel
theorem d_Model_ofSign_3 : decode b_Model_ofSign 3 = .ok (.invokevirtual 101, 3) := by decide +kernel
theorem d_Model_ofSign_6 : decode b_Model_ofSign 6 = .ok (.istore_n 2, 1) := by decide +kernel
theorem d_Model_ofSign_7 : decode b_Model_ofSign 7 = .ok (.aload_n 0, 1) := by decide +kernel
theorem d_Model_ofSign_8 : decode b_Model_ofSign 8 = .ok (.iload_n 1, 1) := by decide +kernel
theorem d_Model_ofSign_9 : decode b_Model_ofSign 9 = .ok (.iconst 1, 1) := by decide +kernel
theorem d_Model_ofSign_10 : decode b_Model_ofSign 10 = .ok (.invokevirtual 101, 3) := by decide +kernel
theorem d_Model_ofSign_13 : decode b_Model_ofSign 13 = .ok (.istore_n 3, 1) := by decide +kernel
theorem d_Model_ofSign_14 : decode b_Model_ofSign 14 = .ok (.iload_n 2, 1) := by decide +kernel
theorem d_Model_ofSign_15 : decode b_Model_ofSign 15 = .ok (.iload_n 3, 1) := by decide +kernel
theorem d_Model_ofSign_16 : decode b_Model_ofSign 16 = .ok (.iadd, 1) := by decide +kernel
theorem d_Model_ofSign_17 : decode b_Model_ofSign 17 = .ok (.aload_n 0, 1) := by decide +kernel
theorem d_Model_ofSign_18 : decode b_Model_ofSign 18 = .ok (.getfield 36, 3) := by decide +kernel
theorem d_Model_ofSign_21 : decode b_Model_ofSign 21 = .ok (.if_icmp .le 5, 3) := by decide +kernel
theorem d_Model_ofSign_24 : decode b_Model_ofSign 24 = .ok (.iconst 0, 1) := by decide +kernel
theorem d_Model_ofSign_25 : decode b_Model_ofSign 25 = .ok (.ireturn, 1) := by decide +kernel
theorem d_Model_ofSign_26 : decode b_Model_ofSign 26 = .ok (.iconst 1, 1) := by decide +kernel
theorem d_Model_ofSign_27 : decode b_Model_ofSign 27 = .ok (.istore 4, 2) := by decide +kernel
theorem d_Model_ofSign_29 : decode b_Model_ofSign 29 = .ok (.iconst 0, 1) := by decide +kernel
theorem d_Model_ofSign_30 : decode b_Model_ofSign 30 = .ok (.istore 5, 2) := by decide +kernel
theorem d_Model_ofSign_32 : decode b_Model_ofSign 32 = .ok (.iload 5, 2) := by decide +kernel
theorem d_Model_ofSign_34 : decode b_Model_ofSign 34 = .ok (.iload_n 2, 1) := by decide +kernel
theorem d_Model_ofSign_35 : decode b_Model_ofSign 35 = .ok (.if_icmp .ge 39, 3) := by decide +kernel
theorem d_Model_ofSign_38 : decode b_Model_ofSign 38 = .ok (.iload 4, 2) := by decide +kernel
theorem d_Model_ofSign_40 : decode b_Model_ofSign 40 = .ok (.ifCond .eq 25, 3) := by decide +kernel
theorem d_Model_ofSign_43 : decode b_Model_ofSign 43 = .ok (.aload_n 0, 1) := by decide +kernel
theorem d_Model_ofSign_44 : decode b_Model_ofSign 44 = .ok (.getfield 7, 3) := by decide +kernel
theorem d_Model_ofSign_47 : decode b_Model_ofSign 47 = .ok (.iload 5, 2) := by decide +kernel
theorem d_Model_ofSign_49 : decode b_Model_ofSign 49 = .ok (.caload, 1) := by decide +kernel
theorem d_Model_ofSign_50 : decode b_Model_ofSign 50 = .ok (.aload_n 0, 1) := by decide +kernel
theorem d_Model_ofSign_51 : decode b_Model_ofSign 51 = .ok (.iload_n 1, 1) := by decide +kernel
theorem d_Model_ofSign_52 : decode b_Model_ofSign 52 = .ok (.iconst 0, 1) := by decide +kernel
theorem d_Model_ofSign_53 : decode b_Model_ofSign 53 = .ok (.iload 5, 2) := by decide +kernel
theorem d_Model_ofSign_55 : decode b_Model_ofSign 55 = .ok (.invokevirtual 105, 3) := by decide +kernel
theorem d_Model_ofSign_58 : decode b_Model_ofSign 58 = .ok (.if_icmp .ne 7, 3) := by decide +kernel
theorem d_Model_ofSign_61 : decode b_Model_ofSign 61 = .ok (.iconst 1, 1) := by decide +kernel
theorem d_Model_ofSign_62 : decode b_Model_ofSign 62 = .ok (.goto 4, 3) := by decide +kernel
theorem d_Model_ofSign_65 : decode b_Model_ofSign 65 = .ok (.iconst 0, 1) := by decide +kernel
theorem d_Model_ofSign_66 : decode b_Model_ofSign 66 = .ok (.istore 4, 2) := by decide +kernel
theorem d_Model_ofSign_68 : decode b_Model_ofSign 68 = .ok (.iinc 5 1, 3) := by decide +kernel
theorem d_Model_ofSign_71 : decode b_Model_ofSign 71 = .ok (.goto (-39), 3) := by decide +kernel
theorem d_Model_ofSign_74 : decode b_Model_ofSign 74 = .ok (.iconst 0, 1) := by decide +kernel
theorem d_Model_ofSign_75 : decode b_Model_ofSign 75 = .ok (.istore 5, 2) := by decide +kernel
theorem d_Model_ofSign_77 : decode b_Model_ofSign 77 = .ok (.iload 5, 2) := by decide +kernel
theorem d_Model_ofSign_79 : decode b_Model_ofSign 79 = .ok (.iload_n 3, 1) := by decide +kernel
theorem d_Model_ofSign_80 : decode b_Model_ofSign 80 = .ok (.if_icmp .ge 46, 3) := by decide +kernel
theorem d_Model_ofSign_83 : decode b_Model_ofSign 83 = .ok (.iload 4, 2) := by decide +kernel
theorem d_Model_ofSign_85 : decode b_Model_ofSign 85 = .ok (.ifCond .eq 32, 3) := by decide +kernel
theorem d_Model_ofSign_88 : decode b_Model_ofSign 88 = .ok (.aload_n 0, 1) := by decide +kernel
theorem d_Model_ofSign_89 : decode b_Model_ofSign 89 = .ok (.getfield 7, 3) := by decide +kernel
theorem d_Model_ofSign_92 : decode b_Model_ofSign 92 = .ok (.aload_n 0, 1) := by decide +kernel
theorem d_Model_ofSign_93 : decode b_Model_ofSign 93 = .ok (.getfield 36, 3) := by decide +kernel
theorem d_Model_ofSign_96 : decode b_Model_ofSign 96 = .ok (.iload_n 3, 1) := by decide +kernel
theorem d_Model_ofSign_97 : decode b_Model_ofSign 97 = .ok (.isub, 1) := by decide +kernel
theorem d_Model_ofSign_98 : decode b_Model_ofSign 98 = .ok (.iload 5, 2) := by decide +kernel
theorem d_Model_ofSign_100 : decode b_Model_ofSign 100 = .ok (.iadd, 1) := by decide +kernel
theorem d_Model_ofSign_101 : decode b_Model_ofSign 101 = .ok (.caload, 1) := by decide +kernel
theorem d_Model_ofSign_102 : decode b_Model_ofSign 102 = .ok (.aload_n 0, 1) := by decide +kernel
theorem d_Model_ofSign_103 : decode b_Model_ofSign 103 = .ok (.iload_n 1, 1) := by decide +kernel
theorem d_Model_ofSign_104 : decode b_Model_ofSign 104 = .ok (.iconst 1, 1) := by decide +kernel
theorem d_Model_ofSign_105 : decode b_Model_ofSign 105 = .ok (.iload 5, 2) := by decide +kernel
theorem d_Model_ofSign_107 : decode b_Model_ofSign 107 = .ok (.invokevirtual 105, 3) := by decide +kernel
theorem d_Model_ofSign_110 : decode b_Model_ofSign 110 = .ok (.if_icmp .ne 7, 3) := by decide +kernel
theorem d_Model_ofSign_113 : decode b_Model_ofSign 113 = .ok (.iconst 1, 1) := by decide +kernel
theorem d_Model_ofSign_114 : decode b_Model_ofSign 114 = .ok (.goto 4, 3) := by decide +kernel
theorem d_Model_ofSign_117 : decode b_Model_ofSign 117 = .ok (.iconst 0, 1) := by decide +kernel
theorem d_Model_ofSign_118 : decode b_Model_ofSign 118 = .ok (.istore 4, 2) := by decide +kernel
theorem d_Model_ofSign_120 : decode b_Model_ofSign 120 = .ok (.iinc 5 1, 3) := by decide +kernel
theorem d_Model_ofSign_123 : decode b_Model_ofSign 123 = .ok (.goto (-46), 3) := by decide +kernel
theorem d_Model_ofSign_126 : decode b_Model_ofSign 126 = .ok (.iload 4, 2) := by decide +kernel
theorem d_Model_ofSign_128 : decode b_Model_ofSign 128 = .ok (.ifCond .eq 21, 3) := by decide +kernel
theorem d_Model_ofSign_131 : decode b_Model_ofSign 131 = .ok (.aload_n 0, 1) := by decide +kernel
theorem d_Model_ofSign_132 : decode b_Model_ofSign 132 = .ok (.iload_n 2, 1) := by decide +kernel
theorem d_Model_ofSign_133 : decode b_Model_ofSign 133 = .ok (.aload_n 0, 1) := by decide +kernel
theorem d_Model_ofSign_134 : decode b_Model_ofSign 134 = .ok (.getfield 36, 3) := by decide +kernel
theorem d_Model_ofSign_137 : decode b_Model_ofSign 137 = .ok (.iload_n 3, 1) := by decide +kernel
theorem d_Model_ofSign_138 : decode b_Model_ofSign 138 = .ok (.isub, 1) := by decide +kernel
theorem d_Model_ofSign_139 : decode b_Model_ofSign 139 = .ok (.invokevirtual 193, 3) := by decide +kernel
theorem d_Model_ofSign_142 : decode b_Model_ofSign 142 = .ok (.ifCond .eq 7, 3) := by decide +kernel
theorem d_Model_ofSign_145 : decode b_Model_ofSign 145 = .ok (.iconst 1, 1) := by decide +kernel
theorem d_Model_ofSign_146 : decode b_Model_ofSign 146 = .ok (.goto 4, 3) := by decide +kernel
theorem d_Model_ofSign_149 : decode b_Model_ofSign 149 = .ok (.iconst 0, 1) := by decide +kernel
theorem d_Model_ofSign_150 : decode b_Model_ofSign 150 = .ok (.ireturn, 1) := by decide +kernel
theorem d_Model_parse_0 : decode b_Model_parse 0 = .ok (.aload_n 0, 1) := by decide +kernel
theorem d_Model_parse_1 : decode b_Model_parse 1 = .ok (.getfield 91, 3) := by decide +kernel
theorem d_Model_parse_4 : decode b_Model_parse 4 = .ok (.ifCond .ne 5, 3) := by decide +kernel
theorem d_Model_parse_7 : decode b_Model_parse 7 = .ok (.iconst 0, 1) := by decide +kernel
theorem d_Model_parse_8 : decode b_Model_parse 8 = .ok (.ireturn, 1) := by decide +kernel
theorem d_Model_parse_9 : decode b_Model_parse 9 = .ok (.aload_n 0, 1) := by decide +kernel
theorem d_Model_parse_10 : decode b_Model_parse 10 = .ok (.iconst 0, 1) := by decide +kernel
theorem d_Model_parse_11 : decode b_Model_parse 11 = .ok (.invokevirtual 196, 3) := by decide +kernel
theorem d_Model_parse_14 : decode b_Model_parse 14 = .ok (.istore_n 1, 1) := by decide +kernel
theorem d_Model_parse_15 : decode b_Model_parse 15 = .ok (.iload_n 1, 1) := by decide +kernel
theorem d_Model_parse_16 : decode b_Model_parse 16 = .ok (.ifCond .ne 15, 3) := by decide +kernel
theorem d_Model_parse_19 : decode b_Model_parse 19 = .ok (.aload_n 0, 1) := by decide +kernel
theorem d_Model_parse_20 : decode b_Model_parse 20 = .ok (.iconst 1, 1) := by decide +kernel
theorem d_Model_parse_21 : decode b_Model_parse 21 = .ok (.invokevirtual 196, 3) := by decide +kernel
theorem d_Model_parse_24 : decode b_Model_parse 24 = .ok (.ifCond .eq 7, 3) := by decide +kernel
theorem d_Model_parse_27 : decode b_Model_parse 27 = .ok (.iconst 1, 1) := by decide +kernel
theorem d_Model_parse_28 : decode b_Model_parse 28 = .ok (.goto 4, 3) := by decide +kernel
theorem d_Model_parse_31 : decode b_Model_parse 31 = .ok (.iconst 0, 1) := by decide +kernel
theorem d_Model_parse_32 : decode b_Model_parse 32 = .ok (.istore_n 2, 1) := by decide +kernel
theorem d_Model_parse_33 : decode b_Model_parse 33 = .ok (.iload_n 1, 1) := by decide +kernel
theorem d_Model_parse_34 : decode b_Model_parse 34 = .ok (.ifCond .ne 7, 3) := by decide +kernel
theorem d_Model_parse_37 : decode b_Model_parse 37 = .ok (.iload_n 2, 1) := by decide +kernel
theorem d_Model_parse_38 : decode b_Model_parse 38 = .ok (.ifCond .eq 10, 3) := by decide +kernel
theorem d_Model_parse_41 : decode b_Model_parse 41 = .ok (.aload_n 0, 1) := by decide +kernel
theorem d_Model_parse_42 : decode b_Model_parse 42 = .ok (.getfield 179, 3) := by decide +kernel
theorem d_Model_parse_45 : decode b_Model_parse 45 = .ok (.ifCond .eq 5, 3) := by decide +kernel
theorem d_Model_parse_48 : decode b_Model_parse 48 = .ok (.iconst 0, 1) := by decide +kernel
theorem d_Model_parse_49 : decode b_Model_parse 49 = .ok (.ireturn, 1) := by decide +kernel
theorem d_Model_parse_50 : decode b_Model_parse 50 = .ok (.aload_n 0, 1) := by decide +kernel
theorem d_Model_parse_51 : decode b_Model_parse 51 = .ok (.iload_n 2, 1) := by decide +kernel
theorem d_Model_parse_52 : decode b_Model_parse 52 = .ok (.ifCond .eq 11, 3) := by decide +kernel
theorem d_Model_parse_55 : decode b_Model_parse 55 = .ok (.aload_n 0, 1) := by decide +kernel
theorem d_Model_parse_56 : decode b_Model_parse 56 = .ok (.getfield 186, 3) := by decide +kernel
theorem d_Model_parse_59 : decode b_Model_parse 59 = .ok (.lneg, 1) := by decide +kernel
theorem d_Model_parse_60 : decode b_Model_parse 60 = .ok (.goto 7, 3) := by decide +kernel
theorem d_Model_parse_63 : decode b_Model_parse 63 = .ok (.aload_n 0, 1) := by decide +kernel
theorem d_Model_parse_64 : decode b_Model_parse 64 = .ok (.getfield 186, 3) := by decide +kernel
theorem d_Model_parse_67 : decode b_Model_parse 67 = .ok (.putfield 199, 3) := by decide +kernel
theorem d_Model_parse_70 : decode b_Model_parse 70 = .ok (.aload_n 0, 1) := by decide +kernel
theorem d_Model_parse_71 : decode b_Model_parse 71 = .ok (.aload_n 0, 1) := by decide +kernel
theorem d_Model_parse_72 : decode b_Model_parse 72 = .ok (.getfield 190, 3) := by decide +kernel
theorem d_Model_parse_75 : decode b_Model_parse 75 = .ok (.putfield 202, 3) := by decide +kernel
theorem d_Model_parse_78 : decode b_Model_parse 78 = .ok (.iconst 1, 1) := by decide +kernel
theorem d_Model_parse_79 : decode b_Model_parse 79 = .ok (.ireturn, 1) := by decide +kernel
theorem d_Model_value_0 : decode b_Model_value 0 = .ok (.aload_n 0, 1) := by decide +kernel
theorem d_Model_value_1 : decode b_Model_value 1 = .ok (.getfield 199, 3) := by decide +kernel
theorem d_Model_value_4 : decode b_Model_value 4 = .ok (.lreturn, 1) := by decide +kernel
theorem d_Model_scale_0 : decode b_Model_scale 0 = .ok (.aload_n 0, 1) := by decide +kernel
theorem d_Model_scale_1 : decode b_Model_scale 1 = .ok (.getfield 202, 3) := by decide +kernel
theorem d_Model_scale_4 : decode b_Model_scale 4 = .ok (.ireturn, 1) := by decide +kernel
theorem d_Long_compare_0 : decode b_Long_compare 0 = .ok (.lload_n 0, 1) := by decide +kernel
theorem d_Long_compare_1 : decode b_Long_compare 1 = .ok (.lload_n 2, 1) := by decide +kernel
theorem d_Long_compare_2 : decode b_Long_compare 2 = .ok (.lcmp, 1) := by decide +kernel
theorem d_Long_compare_3 : decode b_Long_compare 3 = .ok (.ifCond .ge 7, 3) := by decide +kernel
theorem d_Long_compare_6 : decode b_Long_compare 6 = .ok (.iconst (-1), 1) := by decide +kernel
theorem d_Long_compare_7 : decode b_Long_compare 7 = .ok (.goto 14, 3) := by decide +kernel
theorem d_Long_compare_10 : decode b_Long_compare 10 = .ok (.lload_n 0, 1) := by decide +kernel
theorem d_Long_compare_11 : decode b_Long_compare 11 = .ok (.lload_n 2, 1) := by decide +kernel
theorem d_Long_compare_12 : decode b_Long_compare 12 = .ok (.lcmp, 1) := by decide +kernel
theorem d_Long_compare_13 : decode b_Long_compare 13 = .ok (.ifCond .ne 7, 3) := by decide +kernel
theorem d_Long_compare_16 : decode b_Long_compare 16 = .ok (.iconst 0, 1) := by decide +kernel
theorem d_Long_compare_17 : decode b_Long_compare 17 = .ok (.goto 4, 3) := by decide +kernel
theorem d_Long_compare_20 : decode b_Long_compare 20 = .ok (.iconst 1, 1) := by decide +kernel
theorem d_Long_compare_21 : decode b_Long_compare 21 = .ok (.ireturn, 1) := by decide +kernel
end
section
theorem b_0 : (Cond.fieldLink R_Row 15 R_Row "count" "I") ∈ BIG := List.mem_filter.mpr ⟨List.mem_append_right _ (List.mem_append_left _ (List.mem_of_getElem? (i := 31) rfl)), rfl⟩
theorem b_1 : (Cond.fieldLink R_Row 9 R_Row "chars" "[C") ∈ BIG := List.mem_filter.mpr ⟨List.mem_append_right _ (List.mem_append_left _ (List.mem_of_getElem? (i := 30) rfl)), rfl⟩
theorem b_2 : (Cond.methodLink R_Row 19 arraycopyName) ∈ BIG := List.mem_filter.mpr ⟨List.mem_append_right _ (List.mem_append_right _ (List.mem_append_right _ (List.mem_append_left _ (List.mem_of_getElem? (i := 118) rfl)))), rfl⟩
theorem b_3 : (Cond.native arraycopyName) ∈ BIG := List.mem_filter.mpr ⟨List.mem_append_right _ (List.mem_append_right _ (List.mem_append_right _ (List.mem_append_left _ (List.mem_of_getElem? (i := 120) rfl)))), rfl⟩
theorem b_4 : (Cond.static arraycopyName) ∈ BIG := List.mem_filter.mpr ⟨List.mem_append_right _ (List.mem_append_right _ (List.mem_append_right _ (List.mem_append_left _ (List.mem_of_getElem? (i := 119) rfl)))), rfl⟩
theorem b_5 : (Cond.initialized "java/lang/System") ∈ BIG := List.mem_filter.mpr ⟨List.mem_append_right _ (List.mem_append_left _ (List.mem_of_getElem? (i := 15) rfl)), rfl⟩
theorem b_6 : (Cond.fieldLink R_Affix 15 R_Affix "count" "I") ∈ BIG := List.mem_filter.mpr ⟨List.mem_append_right _ (List.mem_append_left _ (List.mem_of_getElem? (i := 163) rfl)), rfl⟩
theorem b_7 : (Cond.fieldLink R_Affix 9 R_Affix "elements" "[I") ∈ BIG := List.mem_filter.mpr ⟨List.mem_append_right _ (List.mem_append_left _ (List.mem_of_getElem? (i := 162) rfl)), rfl⟩
theorem b_8 : (Cond.code y_Affix_at b_Affix_at 2 (some .int)) ∈ BIG := List.mem_filter.mpr ⟨List.mem_append_right _ (List.mem_append_right _ (List.mem_append_left _ (List.mem_of_getElem? (i := 174) rfl))), rfl⟩
theorem b_9 : (Cond.initialized R_Affix) ∈ BIG := List.mem_filter.mpr ⟨List.mem_append_right _ (List.mem_append_left _ (List.mem_of_getElem? (i := 11) rfl)), rfl⟩
theorem b_10 : (Cond.instanceMethod y_Affix_at) ∈ BIG := List.mem_filter.mpr ⟨List.mem_append_right _ (List.mem_append_right _ (List.mem_append_left _ (List.mem_of_getElem? (i := 173) rfl))), rfl⟩
theorem b_11 : (Cond.selects R_Affix y_Affix_at y_Affix_at) ∈ BIG := List.mem_filter.mpr ⟨List.mem_append_left _ (List.mem_map.mpr ⟨_, (List.mem_append_right _ (List.mem_append_left _ (List.mem_of_getElem? (i := 7) rfl))), rfl⟩), rfl⟩
theorem b_12 : (Cond.methodLink R_Affix 19 y_Affix_at) ∈ BIG := List.mem_filter.mpr ⟨List.mem_append_right _ (List.mem_append_right _ (List.mem_append_left _ (List.mem_of_getElem? (i := 171) rfl))), rfl⟩
theorem b_13 : (Cond.code y_Affix_add b_Affix_add 2 none) ∈ BIG := List.mem_filter.mpr ⟨List.mem_append_right _ (List.mem_append_right _ (List.mem_append_left _ (List.mem_of_getElem? (i := 120) rfl))), rfl⟩
theorem b_14 : (Cond.instanceMethod y_Affix_add) ∈ BIG := List.mem_filter.mpr ⟨List.mem_append_right _ (List.mem_append_right _ (List.mem_append_left _ (List.mem_of_getElem? (i := 119) rfl))), rfl⟩
theorem b_15 : (Cond.selects R_Affix y_Affix_add y_Affix_add) ∈ BIG := List.mem_filter.mpr ⟨List.mem_append_left _ (List.mem_map.mpr ⟨_, (List.mem_append_left _ (List.mem_of_getElem? (i := 11) rfl)), rfl⟩), rfl⟩
theorem b_16 : (Cond.methodLink R_Affix 23 y_Affix_add) ∈ BIG := List.mem_filter.mpr ⟨List.mem_append_right _ (List.mem_append_right _ (List.mem_append_left _ (List.mem_of_getElem? (i := 175) rfl))), rfl⟩
theorem b_17 : (Cond.code y_Affix_shownAt b_Affix_shownAt 3 (some .int)) ∈ BIG := List.mem_filter.mpr ⟨List.mem_append_right _ (List.mem_append_right _ (List.mem_append_right _ (List.mem_append_left _ (List.mem_of_getElem? (i := 11) rfl)))), rfl⟩
theorem b_18 : (Cond.instanceMethod y_Affix_shownAt) ∈ BIG := List.mem_filter.mpr ⟨List.mem_append_right _ (List.mem_append_right _ (List.mem_append_right _ (List.mem_append_left _ (List.mem_of_getElem? (i := 10) rfl)))), rfl⟩
theorem b_19 : (Cond.selects R_Affix y_Affix_shownAt y_Affix_shownAt) ∈ BIG := List.mem_filter.mpr ⟨List.mem_append_left _ (List.mem_map.mpr ⟨_, (List.mem_append_right _ (List.mem_append_right _ (List.mem_append_left _ (List.mem_of_getElem? (i := 1) rfl)))), rfl⟩), rfl⟩
theorem b_20 : (Cond.methodLink R_Affix 27 y_Affix_shownAt) ∈ BIG := List.mem_filter.mpr ⟨List.mem_append_right _ (List.mem_append_right _ (List.mem_append_right _ (List.mem_append_left _ (List.mem_of_getElem? (i := 8) rfl)))), rfl⟩
theorem b_21 : (Cond.code y_Row_add b_Row_add 2 (some .boolean)) ∈ BIG := List.mem_filter.mpr ⟨List.mem_append_right _ (List.mem_append_right _ (List.mem_append_left _ (List.mem_of_getElem? (i := 75) rfl))), rfl⟩
theorem b_22 : (Cond.initialized R_Row) ∈ BIG := List.mem_filter.mpr ⟨List.mem_append_right _ (List.mem_append_left _ (List.mem_of_getElem? (i := 2) rfl)), rfl⟩
theorem b_23 : (Cond.instanceMethod y_Row_add) ∈ BIG := List.mem_filter.mpr ⟨List.mem_append_right _ (List.mem_append_right _ (List.mem_append_left _ (List.mem_of_getElem? (i := 74) rfl))), rfl⟩
theorem b_24 : (Cond.selects R_Row y_Row_add y_Row_add) ∈ BIG := List.mem_filter.mpr ⟨List.mem_append_left _ (List.mem_map.mpr ⟨_, (List.mem_append_left _ (List.mem_of_getElem? (i := 3) rfl)), rfl⟩), rfl⟩
theorem b_25 : (Cond.code y_Row_at b_Row_at 2 (some .int)) ∈ BIG := List.mem_filter.mpr ⟨List.mem_append_right _ (List.mem_append_right _ (List.mem_append_left _ (List.mem_of_getElem? (i := 116) rfl))), rfl⟩
theorem b_26 : (Cond.instanceMethod y_Row_at) ∈ BIG := List.mem_filter.mpr ⟨List.mem_append_right _ (List.mem_append_right _ (List.mem_append_left _ (List.mem_of_getElem? (i := 115) rfl))), rfl⟩
theorem b_27 : (Cond.selects R_Row y_Row_at y_Row_at) ∈ BIG := List.mem_filter.mpr ⟨List.mem_append_left _ (List.mem_map.mpr ⟨_, (List.mem_append_left _ (List.mem_of_getElem? (i := 10) rfl)), rfl⟩), rfl⟩
theorem b_28 : (Cond.fieldLink R_Shape 12 R_Shape "hashes" "I") ∈ BIG := List.mem_filter.mpr ⟨List.mem_append_right _ (List.mem_append_left _ (List.mem_of_getElem? (i := 179) rfl)), rfl⟩
theorem b_29 : (Cond.fieldLink R_Shape 16 R_Shape "leastInteger" "I") ∈ BIG := List.mem_filter.mpr ⟨List.mem_append_right _ (List.mem_append_left _ (List.mem_of_getElem? (i := 180) rfl)), rfl⟩
theorem b_30 : (Cond.fieldLink R_Shape 19 R_Shape "leastFraction" "I") ∈ BIG := List.mem_filter.mpr ⟨List.mem_append_right _ (List.mem_append_left _ (List.mem_of_getElem? (i := 184) rfl)), rfl⟩
theorem b_31 : (Cond.fieldLink R_Shape 22 R_Shape "mostFraction" "I") ∈ BIG := List.mem_filter.mpr ⟨List.mem_append_right _ (List.mem_append_left _ (List.mem_of_getElem? (i := 188) rfl)), rfl⟩
theorem b_32 : (Cond.fieldLink R_Shape 25 R_Shape "grouped" "Z") ∈ BIG := List.mem_filter.mpr ⟨List.mem_append_right _ (List.mem_append_left _ (List.mem_of_getElem? (i := 192) rfl)), rfl⟩
theorem b_33 : (Cond.fieldLink R_Shape 29 R_Shape "group" "I") ∈ BIG := List.mem_filter.mpr ⟨List.mem_append_right _ (List.mem_append_left _ (List.mem_of_getElem? (i := 193) rfl)), rfl⟩
theorem b_34 : (Cond.fieldLink R_Shape 32 R_Shape "exponentZeros" "I") ∈ BIG := List.mem_filter.mpr ⟨List.mem_append_right _ (List.mem_append_left _ (List.mem_of_getElem? (i := 198) rfl)), rfl⟩
theorem b_35 : (Cond.fieldLink R_Pattern 10 R_Pattern "first" "LPatternedDecimals$Part;") ∈ BIG := List.mem_filter.mpr ⟨List.mem_append_right _ (List.mem_append_right _ (List.mem_append_left _ (List.mem_of_getElem? (i := 4) rfl))), rfl⟩
theorem b_36 : (Cond.code y_Affix_hasPercent b_Affix_hasPercent 2 (some .boolean)) ∈ BIG := List.mem_filter.mpr ⟨List.mem_append_right _ (List.mem_append_right _ (List.mem_append_left _ (List.mem_of_getElem? (i := 164) rfl))), rfl⟩
theorem b_37 : (Cond.instanceMethod y_Affix_hasPercent) ∈ BIG := List.mem_filter.mpr ⟨List.mem_append_right _ (List.mem_append_right _ (List.mem_append_left _ (List.mem_of_getElem? (i := 163) rfl))), rfl⟩
theorem b_38 : (Cond.selects R_Affix y_Affix_hasPercent y_Affix_hasPercent) ∈ BIG := List.mem_filter.mpr ⟨List.mem_append_left _ (List.mem_map.mpr ⟨_, (List.mem_append_right _ (List.mem_append_left _ (List.mem_of_getElem? (i := 5) rfl))), rfl⟩), rfl⟩
theorem b_39 : (Cond.fieldLink R_Pattern 23 R_Pattern "hasPercent" "Z") ∈ BIG := List.mem_filter.mpr ⟨List.mem_append_right _ (List.mem_append_right _ (List.mem_append_left _ (List.mem_of_getElem? (i := 19) rfl))), rfl⟩
theorem b_40 : (Cond.fieldLink R_Pattern 19 R_Pattern "hasSecond" "Z") ∈ BIG := List.mem_filter.mpr ⟨List.mem_append_right _ (List.mem_append_right _ (List.mem_append_left _ (List.mem_of_getElem? (i := 15) rfl))), rfl⟩
theorem b_41 : (Cond.fieldLink R_Pattern 16 R_Pattern "second" "LPatternedDecimals$Part;") ∈ BIG := List.mem_filter.mpr ⟨List.mem_append_right _ (List.mem_append_right _ (List.mem_append_left _ (List.mem_of_getElem? (i := 10) rfl))), rfl⟩
theorem b_42 : (Cond.code y_Affix_clear b_Affix_clear 1 none) ∈ BIG := List.mem_filter.mpr ⟨List.mem_append_right _ (List.mem_append_right _ (List.mem_append_left _ (List.mem_of_getElem? (i := 111) rfl))), rfl⟩
theorem b_43 : (Cond.instanceMethod y_Affix_clear) ∈ BIG := List.mem_filter.mpr ⟨List.mem_append_right _ (List.mem_append_right _ (List.mem_append_left _ (List.mem_of_getElem? (i := 110) rfl))), rfl⟩
theorem b_44 : (Cond.selects R_Affix y_Affix_clear y_Affix_clear) ∈ BIG := List.mem_filter.mpr ⟨List.mem_append_left _ (List.mem_map.mpr ⟨_, (List.mem_append_left _ (List.mem_of_getElem? (i := 9) rfl)), rfl⟩), rfl⟩
theorem b_45 : (Cond.code y_Affix_addAll b_Affix_addAll 3 none) ∈ BIG := List.mem_filter.mpr ⟨List.mem_append_right _ (List.mem_append_right _ (List.mem_append_left _ (List.mem_of_getElem? (i := 170) rfl))), rfl⟩
theorem b_46 : (Cond.instanceMethod y_Affix_addAll) ∈ BIG := List.mem_filter.mpr ⟨List.mem_append_right _ (List.mem_append_right _ (List.mem_append_left _ (List.mem_of_getElem? (i := 169) rfl))), rfl⟩
theorem b_47 : (Cond.selects R_Affix y_Affix_addAll y_Affix_addAll) ∈ BIG := List.mem_filter.mpr ⟨List.mem_append_left _ (List.mem_map.mpr ⟨_, (List.mem_append_right _ (List.mem_append_left _ (List.mem_of_getElem? (i := 6) rfl))), rfl⟩), rfl⟩
theorem b_48 : (Cond.code y_Affix_endsAs b_Affix_endsAs 4 (some .boolean)) ∈ BIG := List.mem_filter.mpr ⟨List.mem_append_right _ (List.mem_append_right _ (List.mem_append_right _ (List.mem_append_left _ (List.mem_of_getElem? (i := 92) rfl)))), rfl⟩
theorem b_49 : (Cond.instanceMethod y_Affix_endsAs) ∈ BIG := List.mem_filter.mpr ⟨List.mem_append_right _ (List.mem_append_right _ (List.mem_append_right _ (List.mem_append_left _ (List.mem_of_getElem? (i := 91) rfl)))), rfl⟩
theorem b_50 : (Cond.selects R_Affix y_Affix_endsAs y_Affix_endsAs) ∈ BIG := List.mem_filter.mpr ⟨List.mem_append_left _ (List.mem_map.mpr ⟨_, (List.mem_append_right _ (List.mem_append_right _ (List.mem_append_left _ (List.mem_of_getElem? (i := 14) rfl)))), rfl⟩), rfl⟩
theorem b_51 : (Cond.code y_Row_size b_Row_size 1 (some .int)) ∈ BIG := List.mem_filter.mpr ⟨List.mem_append_right _ (List.mem_append_right _ (List.mem_append_left _ (List.mem_of_getElem? (i := 91) rfl))), rfl⟩
theorem b_52 : (Cond.instanceMethod y_Row_size) ∈ BIG := List.mem_filter.mpr ⟨List.mem_append_right _ (List.mem_append_right _ (List.mem_append_left _ (List.mem_of_getElem? (i := 90) rfl))), rfl⟩
theorem b_53 : (Cond.selects R_Row y_Row_size y_Row_size) ∈ BIG := List.mem_filter.mpr ⟨List.mem_append_left _ (List.mem_map.mpr ⟨_, (List.mem_append_left _ (List.mem_of_getElem? (i := 5) rfl)), rfl⟩), rfl⟩
theorem b_54 : (Cond.fieldLink R_PatternReader 9 R_PatternReader "place" "I") ∈ BIG := List.mem_filter.mpr ⟨List.mem_append_right _ (List.mem_append_left _ (List.mem_of_getElem? (i := 44) rfl)), rfl⟩
theorem b_55 : (Cond.code y_Deci_isSpecial b_Deci_isSpecial 1 (some .boolean)) ∈ BIG := List.mem_filter.mpr ⟨List.mem_append_right _ (List.mem_append_right _ (List.mem_append_left _ (List.mem_of_getElem? (i := 123) rfl))), rfl⟩
theorem b_56 : (Cond.initialized R_Deci) ∈ BIG := List.mem_filter.mpr ⟨List.mem_append_right _ (List.mem_append_left _ (List.mem_of_getElem? (i := 1) rfl)), rfl⟩
theorem b_57 : (Cond.static y_Deci_isSpecial) ∈ BIG := List.mem_filter.mpr ⟨List.mem_append_right _ (List.mem_append_right _ (List.mem_append_left _ (List.mem_of_getElem? (i := 122) rfl))), rfl⟩
theorem b_58 : (Cond.code y_Shape_takeInteger b_Shape_takeInteger 2 (some .boolean)) ∈ BIG := List.mem_filter.mpr ⟨List.mem_append_right _ (List.mem_append_right _ (List.mem_append_left _ (List.mem_of_getElem? (i := 140) rfl))), rfl⟩
theorem b_59 : (Cond.initialized R_Shape) ∈ BIG := List.mem_filter.mpr ⟨List.mem_append_right _ (List.mem_append_left _ (List.mem_of_getElem? (i := 12) rfl)), rfl⟩
theorem b_60 : (Cond.instanceMethod y_Shape_takeInteger) ∈ BIG := List.mem_filter.mpr ⟨List.mem_append_right _ (List.mem_append_right _ (List.mem_append_left _ (List.mem_of_getElem? (i := 139) rfl))), rfl⟩
theorem b_61 : (Cond.selects R_Shape y_Shape_takeInteger y_Shape_takeInteger) ∈ BIG := List.mem_filter.mpr ⟨List.mem_append_left _ (List.mem_map.mpr ⟨_, (List.mem_append_left _ (List.mem_of_getElem? (i := 15) rfl)), rfl⟩), rfl⟩
theorem b_62 : (Cond.code y_Shape_startGroup b_Shape_startGroup 1 none) ∈ BIG := List.mem_filter.mpr ⟨List.mem_append_right _ (List.mem_append_right _ (List.mem_append_left _ (List.mem_of_getElem? (i := 136) rfl))), rfl⟩
theorem b_63 : (Cond.instanceMethod y_Shape_startGroup) ∈ BIG := List.mem_filter.mpr ⟨List.mem_append_right _ (List.mem_append_right _ (List.mem_append_left _ (List.mem_of_getElem? (i := 135) rfl))), rfl⟩
theorem b_64 : (Cond.selects R_Shape y_Shape_startGroup y_Shape_startGroup) ∈ BIG := List.mem_filter.mpr ⟨List.mem_append_left _ (List.mem_map.mpr ⟨_, (List.mem_append_left _ (List.mem_of_getElem? (i := 14) rfl)), rfl⟩), rfl⟩
theorem b_65 : (Cond.code y_Shape_takeFraction b_Shape_takeFraction 2 (some .boolean)) ∈ BIG := List.mem_filter.mpr ⟨List.mem_append_right _ (List.mem_append_right _ (List.mem_append_left _ (List.mem_of_getElem? (i := 148) rfl))), rfl⟩
theorem b_66 : (Cond.instanceMethod y_Shape_takeFraction) ∈ BIG := List.mem_filter.mpr ⟨List.mem_append_right _ (List.mem_append_right _ (List.mem_append_left _ (List.mem_of_getElem? (i := 147) rfl))), rfl⟩
theorem b_67 : (Cond.selects R_Shape y_Shape_takeFraction y_Shape_takeFraction) ∈ BIG := List.mem_filter.mpr ⟨List.mem_append_left _ (List.mem_map.mpr ⟨_, (List.mem_append_right _ (List.mem_append_left _ (List.mem_of_getElem? (i := 1) rfl))), rfl⟩), rfl⟩
theorem b_68 : (Cond.code y_Shape_clear b_Shape_clear 1 none) ∈ BIG := List.mem_filter.mpr ⟨List.mem_append_right _ (List.mem_append_left _ (List.mem_of_getElem? (i := 178) rfl)), rfl⟩
theorem b_69 : (Cond.instanceMethod y_Shape_clear) ∈ BIG := List.mem_filter.mpr ⟨List.mem_append_right _ (List.mem_append_left _ (List.mem_of_getElem? (i := 177) rfl)), rfl⟩
theorem b_70 : (Cond.selects R_Shape y_Shape_clear y_Shape_clear) ∈ BIG := List.mem_filter.mpr ⟨List.mem_append_left _ (List.mem_map.mpr ⟨_, (List.mem_append_left _ (List.mem_of_getElem? (i := 2) rfl)), rfl⟩), rfl⟩
theorem b_71 : (Cond.code y_PatternReader_readInteger b_PatternReader_readInteger 5 (some .boolean)) ∈ BIG := List.mem_filter.mpr ⟨List.mem_append_right _ (List.mem_append_right _ (List.mem_append_left _ (List.mem_of_getElem? (i := 132) rfl))), rfl⟩
theorem b_72 : (Cond.initialized R_PatternReader) ∈ BIG := List.mem_filter.mpr ⟨List.mem_append_right _ (List.mem_append_left _ (List.mem_of_getElem? (i := 3) rfl)), rfl⟩
theorem b_73 : (Cond.instanceMethod y_PatternReader_readInteger) ∈ BIG := List.mem_filter.mpr ⟨List.mem_append_right _ (List.mem_append_right _ (List.mem_append_left _ (List.mem_of_getElem? (i := 131) rfl))), rfl⟩
theorem b_74 : (Cond.selects R_PatternReader y_PatternReader_readInteger y_PatternReader_readInteger) ∈ BIG := List.mem_filter.mpr ⟨List.mem_append_left _ (List.mem_map.mpr ⟨_, (List.mem_append_left _ (List.mem_of_getElem? (i := 13) rfl)), rfl⟩), rfl⟩
theorem b_75 : (Cond.methodLink R_PatternReader 79 y_PatternReader_readInteger) ∈ BIG := List.mem_filter.mpr ⟨List.mem_append_right _ (List.mem_append_right _ (List.mem_append_left _ (List.mem_of_getElem? (i := 129) rfl))), rfl⟩
theorem b_76 : (Cond.code y_Shape_allowsExponent b_Shape_allowsExponent 1 (some .boolean)) ∈ BIG := List.mem_filter.mpr ⟨List.mem_append_right _ (List.mem_append_right _ (List.mem_append_left _ (List.mem_of_getElem? (i := 152) rfl))), rfl⟩
theorem b_77 : (Cond.instanceMethod y_Shape_allowsExponent) ∈ BIG := List.mem_filter.mpr ⟨List.mem_append_right _ (List.mem_append_right _ (List.mem_append_left _ (List.mem_of_getElem? (i := 151) rfl))), rfl⟩
theorem b_78 : (Cond.selects R_Shape y_Shape_allowsExponent y_Shape_allowsExponent) ∈ BIG := List.mem_filter.mpr ⟨List.mem_append_left _ (List.mem_map.mpr ⟨_, (List.mem_append_right _ (List.mem_append_left _ (List.mem_of_getElem? (i := 2) rfl))), rfl⟩), rfl⟩
theorem b_79 : (Cond.code y_PatternReader_readExponent b_PatternReader_readExponent 3 (some .boolean)) ∈ BIG := List.mem_filter.mpr ⟨List.mem_append_right _ (List.mem_append_right _ (List.mem_append_left _ (List.mem_of_getElem? (i := 156) rfl))), rfl⟩
theorem b_80 : (Cond.instanceMethod y_PatternReader_readExponent) ∈ BIG := List.mem_filter.mpr ⟨List.mem_append_right _ (List.mem_append_right _ (List.mem_append_left _ (List.mem_of_getElem? (i := 155) rfl))), rfl⟩
theorem b_81 : (Cond.selects R_PatternReader y_PatternReader_readExponent y_PatternReader_readExponent) ∈ BIG := List.mem_filter.mpr ⟨List.mem_append_left _ (List.mem_map.mpr ⟨_, (List.mem_append_right _ (List.mem_append_left _ (List.mem_of_getElem? (i := 3) rfl))), rfl⟩), rfl⟩
theorem b_82 : (Cond.methodLink R_PatternReader 90 y_PatternReader_readExponent) ∈ BIG := List.mem_filter.mpr ⟨List.mem_append_right _ (List.mem_append_right _ (List.mem_append_left _ (List.mem_of_getElem? (i := 153) rfl))), rfl⟩
theorem b_83 : (Cond.code y_PatternReader_readFraction b_PatternReader_readFraction 4 none) ∈ BIG := List.mem_filter.mpr ⟨List.mem_append_right _ (List.mem_append_right _ (List.mem_append_left _ (List.mem_of_getElem? (i := 144) rfl))), rfl⟩
theorem b_84 : (Cond.instanceMethod y_PatternReader_readFraction) ∈ BIG := List.mem_filter.mpr ⟨List.mem_append_right _ (List.mem_append_right _ (List.mem_append_left _ (List.mem_of_getElem? (i := 143) rfl))), rfl⟩
theorem b_85 : (Cond.selects R_PatternReader y_PatternReader_readFraction y_PatternReader_readFraction) ∈ BIG := List.mem_filter.mpr ⟨List.mem_append_left _ (List.mem_map.mpr ⟨_, (List.mem_append_right _ (List.mem_append_left _ (List.mem_of_getElem? (i := 0) rfl))), rfl⟩), rfl⟩
theorem b_86 : (Cond.methodLink R_PatternReader 82 y_PatternReader_readFraction) ∈ BIG := List.mem_filter.mpr ⟨List.mem_append_right _ (List.mem_append_right _ (List.mem_append_left _ (List.mem_of_getElem? (i := 141) rfl))), rfl⟩
theorem b_87 : (Cond.code y_PatternReader_readAffix b_PatternReader_readAffix 6 (some .boolean)) ∈ BIG := List.mem_filter.mpr ⟨List.mem_append_right _ (List.mem_append_right _ (List.mem_append_left _ (List.mem_of_getElem? (i := 107) rfl))), rfl⟩
theorem b_88 : (Cond.instanceMethod y_PatternReader_readAffix) ∈ BIG := List.mem_filter.mpr ⟨List.mem_append_right _ (List.mem_append_right _ (List.mem_append_left _ (List.mem_of_getElem? (i := 106) rfl))), rfl⟩
theorem b_89 : (Cond.selects R_PatternReader y_PatternReader_readAffix y_PatternReader_readAffix) ∈ BIG := List.mem_filter.mpr ⟨List.mem_append_left _ (List.mem_map.mpr ⟨_, (List.mem_append_left _ (List.mem_of_getElem? (i := 8) rfl)), rfl⟩), rfl⟩
theorem b_90 : (Cond.methodLink R_PatternReader 48 y_PatternReader_readAffix) ∈ BIG := List.mem_filter.mpr ⟨List.mem_append_right _ (List.mem_append_right _ (List.mem_append_left _ (List.mem_of_getElem? (i := 104) rfl))), rfl⟩
theorem b_91 : (Cond.code y_PatternReader_readNumber b_PatternReader_readNumber 3 (some .boolean)) ∈ BIG := List.mem_filter.mpr ⟨List.mem_append_right _ (List.mem_append_right _ (List.mem_append_left _ (List.mem_of_getElem? (i := 127) rfl))), rfl⟩
theorem b_92 : (Cond.instanceMethod y_PatternReader_readNumber) ∈ BIG := List.mem_filter.mpr ⟨List.mem_append_right _ (List.mem_append_right _ (List.mem_append_left _ (List.mem_of_getElem? (i := 126) rfl))), rfl⟩
theorem b_93 : (Cond.selects R_PatternReader y_PatternReader_readNumber y_PatternReader_readNumber) ∈ BIG := List.mem_filter.mpr ⟨List.mem_append_left _ (List.mem_map.mpr ⟨_, (List.mem_append_left _ (List.mem_of_getElem? (i := 12) rfl)), rfl⟩), rfl⟩
theorem b_94 : (Cond.methodLink R_PatternReader 56 y_PatternReader_readNumber) ∈ BIG := List.mem_filter.mpr ⟨List.mem_append_right _ (List.mem_append_right _ (List.mem_append_left _ (List.mem_of_getElem? (i := 124) rfl))), rfl⟩
theorem b_95 : (Cond.code y_PatternReader_readPart b_PatternReader_readPart 3 (some .boolean)) ∈ BIG := List.mem_filter.mpr ⟨List.mem_append_right _ (List.mem_append_right _ (List.mem_append_left _ (List.mem_of_getElem? (i := 103) rfl))), rfl⟩
theorem b_96 : (Cond.instanceMethod y_PatternReader_readPart) ∈ BIG := List.mem_filter.mpr ⟨List.mem_append_right _ (List.mem_append_right _ (List.mem_append_left _ (List.mem_of_getElem? (i := 102) rfl))), rfl⟩
theorem b_97 : (Cond.selects R_PatternReader y_PatternReader_readPart y_PatternReader_readPart) ∈ BIG := List.mem_filter.mpr ⟨List.mem_append_left _ (List.mem_map.mpr ⟨_, (List.mem_append_left _ (List.mem_of_getElem? (i := 7) rfl)), rfl⟩), rfl⟩
theorem b_98 : (Cond.methodLink R_PatternReader 25 y_PatternReader_readPart) ∈ BIG := List.mem_filter.mpr ⟨List.mem_append_right _ (List.mem_append_right _ (List.mem_append_left _ (List.mem_of_getElem? (i := 100) rfl))), rfl⟩
theorem b_99 : (Cond.code y_Affix_size b_Affix_size 1 (some .int)) ∈ BIG := List.mem_filter.mpr ⟨List.mem_append_right _ (List.mem_append_right _ (List.mem_append_right _ (List.mem_append_left _ (List.mem_of_getElem? (i := 64) rfl)))), rfl⟩
theorem b_100 : (Cond.instanceMethod y_Affix_size) ∈ BIG := List.mem_filter.mpr ⟨List.mem_append_right _ (List.mem_append_right _ (List.mem_append_right _ (List.mem_append_left _ (List.mem_of_getElem? (i := 63) rfl)))), rfl⟩
theorem b_101 : (Cond.selects R_Affix y_Affix_size y_Affix_size) ∈ BIG := List.mem_filter.mpr ⟨List.mem_append_left _ (List.mem_map.mpr ⟨_, (List.mem_append_right _ (List.mem_append_right _ (List.mem_append_left _ (List.mem_of_getElem? (i := 10) rfl)))), rfl⟩), rfl⟩
theorem b_102 : (Cond.code y_PatternWriter_needsQuotes b_PatternWriter_needsQuotes 1 (some .boolean)) ∈ BIG := List.mem_filter.mpr ⟨List.mem_append_right _ (List.mem_append_right _ (List.mem_append_right _ (List.mem_append_left _ (List.mem_of_getElem? (i := 68) rfl)))), rfl⟩
theorem b_103 : (Cond.initialized R_PatternWriter) ∈ BIG := List.mem_filter.mpr ⟨List.mem_append_right _ (List.mem_append_left _ (List.mem_of_getElem? (i := 4) rfl)), rfl⟩
theorem b_104 : (Cond.static y_PatternWriter_needsQuotes) ∈ BIG := List.mem_filter.mpr ⟨List.mem_append_right _ (List.mem_append_right _ (List.mem_append_right _ (List.mem_append_left _ (List.mem_of_getElem? (i := 67) rfl)))), rfl⟩
theorem b_105 : (Cond.methodLink R_PatternWriter 68 y_PatternWriter_needsQuotes) ∈ BIG := List.mem_filter.mpr ⟨List.mem_append_right _ (List.mem_append_right _ (List.mem_append_right _ (List.mem_append_left _ (List.mem_of_getElem? (i := 66) rfl)))), rfl⟩
theorem b_106 : (Cond.methodLink R_PatternWriter 103 Lib.Math.max.name) ∈ BIG := List.mem_filter.mpr ⟨List.mem_append_right _ (List.mem_append_right _ (List.mem_append_right _ (List.mem_append_left _ (List.mem_of_getElem? (i := 80) rfl)))), rfl⟩
theorem b_107 : (Cond.static Lib.Math.max.name) ∈ BIG := List.mem_filter.mpr ⟨List.mem_append_right _ (List.mem_append_right _ (List.mem_append_left _ (List.mem_of_getElem? (i := 209) rfl))), rfl⟩
theorem b_108 : (Cond.initialized "java/lang/Math") ∈ BIG := List.mem_filter.mpr ⟨List.mem_append_right _ (List.mem_append_left _ (List.mem_of_getElem? (i := 7) rfl)), rfl⟩
theorem b_109 : (Cond.code Lib.Math.max.name Lib.Math.max.code 2 (some .int)) ∈ BIG := List.mem_filter.mpr ⟨List.mem_append_right _ (List.mem_append_right _ (List.mem_append_left _ (List.mem_of_getElem? (i := 210) rfl))), rfl⟩
theorem b_110 : (Cond.code y_PatternWriter_writeInteger b_PatternWriter_writeInteger 6 none) ∈ BIG := List.mem_filter.mpr ⟨List.mem_append_right _ (List.mem_append_right _ (List.mem_append_right _ (List.mem_append_left _ (List.mem_of_getElem? (i := 79) rfl)))), rfl⟩
theorem b_111 : (Cond.instanceMethod y_PatternWriter_writeInteger) ∈ BIG := List.mem_filter.mpr ⟨List.mem_append_right _ (List.mem_append_right _ (List.mem_append_right _ (List.mem_append_left _ (List.mem_of_getElem? (i := 78) rfl)))), rfl⟩
theorem b_112 : (Cond.selects R_PatternWriter y_PatternWriter_writeInteger y_PatternWriter_writeInteger) ∈ BIG := List.mem_filter.mpr ⟨List.mem_append_left _ (List.mem_map.mpr ⟨_, (List.mem_append_right _ (List.mem_append_right _ (List.mem_append_left _ (List.mem_of_getElem? (i := 12) rfl)))), rfl⟩), rfl⟩
theorem b_113 : (Cond.methodLink R_PatternWriter 78 y_PatternWriter_writeInteger) ∈ BIG := List.mem_filter.mpr ⟨List.mem_append_right _ (List.mem_append_right _ (List.mem_append_right _ (List.mem_append_left _ (List.mem_of_getElem? (i := 76) rfl)))), rfl⟩
theorem b_114 : (Cond.code y_PatternWriter_writeMany b_PatternWriter_writeMany 4 none) ∈ BIG := List.mem_filter.mpr ⟨List.mem_append_right _ (List.mem_append_right _ (List.mem_append_right _ (List.mem_append_left _ (List.mem_of_getElem? (i := 83) rfl)))), rfl⟩
theorem b_115 : (Cond.static y_PatternWriter_writeMany) ∈ BIG := List.mem_filter.mpr ⟨List.mem_append_right _ (List.mem_append_right _ (List.mem_append_right _ (List.mem_append_left _ (List.mem_of_getElem? (i := 82) rfl)))), rfl⟩
theorem b_116 : (Cond.methodLink R_PatternWriter 90 y_PatternWriter_writeMany) ∈ BIG := List.mem_filter.mpr ⟨List.mem_append_right _ (List.mem_append_right _ (List.mem_append_right _ (List.mem_append_left _ (List.mem_of_getElem? (i := 81) rfl)))), rfl⟩
theorem b_117 : (Cond.code y_Row_clear b_Row_clear 1 none) ∈ BIG := List.mem_filter.mpr ⟨List.mem_append_right _ (List.mem_append_right _ (List.mem_append_left _ (List.mem_of_getElem? (i := 83) rfl))), rfl⟩
theorem b_118 : (Cond.instanceMethod y_Row_clear) ∈ BIG := List.mem_filter.mpr ⟨List.mem_append_right _ (List.mem_append_right _ (List.mem_append_left _ (List.mem_of_getElem? (i := 82) rfl))), rfl⟩
theorem b_119 : (Cond.selects R_Row y_Row_clear y_Row_clear) ∈ BIG := List.mem_filter.mpr ⟨List.mem_append_left _ (List.mem_map.mpr ⟨_, (List.mem_append_left _ (List.mem_of_getElem? (i := 4) rfl)), rfl⟩), rfl⟩
theorem b_120 : (Cond.code y_PatternWriter_writeAffix b_PatternWriter_writeAffix 6 none) ∈ BIG := List.mem_filter.mpr ⟨List.mem_append_right _ (List.mem_append_right _ (List.mem_append_right _ (List.mem_append_left _ (List.mem_of_getElem? (i := 60) rfl)))), rfl⟩
theorem b_121 : (Cond.instanceMethod y_PatternWriter_writeAffix) ∈ BIG := List.mem_filter.mpr ⟨List.mem_append_right _ (List.mem_append_right _ (List.mem_append_right _ (List.mem_append_left _ (List.mem_of_getElem? (i := 59) rfl)))), rfl⟩
theorem b_122 : (Cond.selects R_PatternWriter y_PatternWriter_writeAffix y_PatternWriter_writeAffix) ∈ BIG := List.mem_filter.mpr ⟨List.mem_append_left _ (List.mem_map.mpr ⟨_, (List.mem_append_right _ (List.mem_append_right _ (List.mem_append_left _ (List.mem_of_getElem? (i := 9) rfl)))), rfl⟩), rfl⟩
theorem b_123 : (Cond.methodLink R_PatternWriter 26 y_PatternWriter_writeAffix) ∈ BIG := List.mem_filter.mpr ⟨List.mem_append_right _ (List.mem_append_right _ (List.mem_append_right _ (List.mem_append_left _ (List.mem_of_getElem? (i := 57) rfl)))), rfl⟩
theorem b_124 : (Cond.code y_PatternWriter_writeShape b_PatternWriter_writeShape 3 none) ∈ BIG := List.mem_filter.mpr ⟨List.mem_append_right _ (List.mem_append_right _ (List.mem_append_right _ (List.mem_append_left _ (List.mem_of_getElem? (i := 75) rfl)))), rfl⟩
theorem b_125 : (Cond.instanceMethod y_PatternWriter_writeShape) ∈ BIG := List.mem_filter.mpr ⟨List.mem_append_right _ (List.mem_append_right _ (List.mem_append_right _ (List.mem_append_left _ (List.mem_of_getElem? (i := 74) rfl)))), rfl⟩
theorem b_126 : (Cond.selects R_PatternWriter y_PatternWriter_writeShape y_PatternWriter_writeShape) ∈ BIG := List.mem_filter.mpr ⟨List.mem_append_left _ (List.mem_map.mpr ⟨_, (List.mem_append_right _ (List.mem_append_right _ (List.mem_append_left _ (List.mem_of_getElem? (i := 11) rfl)))), rfl⟩), rfl⟩
theorem b_127 : (Cond.methodLink R_PatternWriter 36 y_PatternWriter_writeShape) ∈ BIG := List.mem_filter.mpr ⟨List.mem_append_right _ (List.mem_append_right _ (List.mem_append_right _ (List.mem_append_left _ (List.mem_of_getElem? (i := 72) rfl)))), rfl⟩
theorem b_128 : (Cond.code y_Pattern_secondIsUsual b_Pattern_secondIsUsual 1 (some .boolean)) ∈ BIG := List.mem_filter.mpr ⟨List.mem_append_right _ (List.mem_append_right _ (List.mem_append_right _ (List.mem_append_left _ (List.mem_of_getElem? (i := 87) rfl)))), rfl⟩
theorem b_129 : (Cond.initialized R_Pattern) ∈ BIG := List.mem_filter.mpr ⟨List.mem_append_right _ (List.mem_append_left _ (List.mem_of_getElem? (i := 9) rfl)), rfl⟩
theorem b_130 : (Cond.instanceMethod y_Pattern_secondIsUsual) ∈ BIG := List.mem_filter.mpr ⟨List.mem_append_right _ (List.mem_append_right _ (List.mem_append_right _ (List.mem_append_left _ (List.mem_of_getElem? (i := 86) rfl)))), rfl⟩
theorem b_131 : (Cond.selects R_Pattern y_Pattern_secondIsUsual y_Pattern_secondIsUsual) ∈ BIG := List.mem_filter.mpr ⟨List.mem_append_left _ (List.mem_map.mpr ⟨_, (List.mem_append_right _ (List.mem_append_right _ (List.mem_append_left _ (List.mem_of_getElem? (i := 13) rfl)))), rfl⟩), rfl⟩
theorem b_132 : (Cond.fieldLink R_Decimal 15 R_Decimal "negative" "Z") ∈ BIG := List.mem_filter.mpr ⟨List.mem_append_right _ (List.mem_append_left _ (List.mem_of_getElem? (i := 74) rfl)), rfl⟩
theorem b_133 : (Cond.methodLink R_Decimal 19 Lib.MathLoose.abs_long.x) ∈ BIG := List.mem_filter.mpr ⟨List.mem_append_right _ (List.mem_append_left _ (List.mem_of_getElem? (i := 71) rfl)), rfl⟩
theorem b_134 : (Cond.static Lib.MathLoose.abs_long.x) ∈ BIG := List.mem_filter.mpr ⟨List.mem_append_right _ (List.mem_append_left _ (List.mem_of_getElem? (i := 72) rfl)), rfl⟩
theorem b_135 : (Cond.code Lib.MathLoose.abs_long.x Lib.MathLoose.abs_long.code 2 (some .long)) ∈ BIG := List.mem_filter.mpr ⟨List.mem_append_right _ (List.mem_append_left _ (List.mem_of_getElem? (i := 73) rfl)), rfl⟩
theorem b_136 : (Cond.fieldLink R_Decimal 25 R_Decimal "digits" "J") ∈ BIG := List.mem_filter.mpr ⟨List.mem_append_right _ (List.mem_append_left _ (List.mem_of_getElem? (i := 75) rfl)), rfl⟩
theorem b_137 : (Cond.fieldLink R_Decimal 29 R_Decimal "places" "I") ∈ BIG := List.mem_filter.mpr ⟨List.mem_append_right _ (List.mem_append_left _ (List.mem_of_getElem? (i := 77) rfl)), rfl⟩
theorem b_138 : (Cond.fieldLink R_Deci 163 R_Deci "POWERS" "[J") ∈ BIG := List.mem_filter.mpr ⟨List.mem_append_right _ (List.mem_append_right _ (List.mem_append_left _ (List.mem_of_getElem? (i := 203) rfl))), rfl⟩
theorem b_139 : (Cond.methodLink R_Deci 167 Lib.Math.min.name) ∈ BIG := List.mem_filter.mpr ⟨List.mem_append_right _ (List.mem_append_right _ (List.mem_append_left _ (List.mem_of_getElem? (i := 205) rfl))), rfl⟩
theorem b_140 : (Cond.static Lib.Math.min.name) ∈ BIG := List.mem_filter.mpr ⟨List.mem_append_right _ (List.mem_append_right _ (List.mem_append_left _ (List.mem_of_getElem? (i := 206) rfl))), rfl⟩
theorem b_141 : (Cond.code Lib.Math.min.name Lib.Math.min.code 2 (some .int)) ∈ BIG := List.mem_filter.mpr ⟨List.mem_append_right _ (List.mem_append_right _ (List.mem_append_left _ (List.mem_of_getElem? (i := 207) rfl))), rfl⟩
theorem b_142 : (Cond.methodLink R_Deci 173 Lib.Math.max.name) ∈ BIG := List.mem_filter.mpr ⟨List.mem_append_right _ (List.mem_append_right _ (List.mem_append_left _ (List.mem_of_getElem? (i := 208) rfl))), rfl⟩
theorem b_143 : (Cond.code y_Deci_tenTo b_Deci_tenTo 1 (some .long)) ∈ BIG := List.mem_filter.mpr ⟨List.mem_append_right _ (List.mem_append_right _ (List.mem_append_left _ (List.mem_of_getElem? (i := 202) rfl))), rfl⟩
theorem b_144 : (Cond.static y_Deci_tenTo) ∈ BIG := List.mem_filter.mpr ⟨List.mem_append_right _ (List.mem_append_right _ (List.mem_append_left _ (List.mem_of_getElem? (i := 201) rfl))), rfl⟩
theorem b_145 : (Cond.code y_Long_compare b_Long_compare 4 (some .int)) ∈ BIG := List.mem_filter.mpr ⟨List.mem_append_right _ (List.mem_append_right _ (List.mem_append_left _ (List.mem_of_getElem? (i := 217) rfl))), rfl⟩
theorem b_146 : (Cond.initialized R_Long) ∈ BIG := List.mem_filter.mpr ⟨List.mem_append_right _ (List.mem_append_left _ (List.mem_of_getElem? (i := 14) rfl)), rfl⟩
theorem b_147 : (Cond.static y_Long_compare) ∈ BIG := List.mem_filter.mpr ⟨List.mem_append_right _ (List.mem_append_right _ (List.mem_append_left _ (List.mem_of_getElem? (i := 216) rfl))), rfl⟩
theorem b_148 : (Cond.methodLink R_Decimal 41 y_Long_compare) ∈ BIG := List.mem_filter.mpr ⟨List.mem_append_right _ (List.mem_append_right _ (List.mem_append_left _ (List.mem_of_getElem? (i := 215) rfl))), rfl⟩
theorem b_149 : (Cond.constantLong R_Decimal 47 2) ∈ BIG := List.mem_filter.mpr ⟨List.mem_append_right _ (List.mem_append_right _ (List.mem_append_left _ (List.mem_of_getElem? (i := 218) rfl))), rfl⟩
theorem b_150 : (Cond.code y_Decimal_goesAway b_Decimal_goesAway 9 (some .boolean)) ∈ BIG := List.mem_filter.mpr ⟨List.mem_append_right _ (List.mem_append_right _ (List.mem_append_left _ (List.mem_of_getElem? (i := 214) rfl))), rfl⟩
theorem b_151 : (Cond.initialized R_Decimal) ∈ BIG := List.mem_filter.mpr ⟨List.mem_append_right _ (List.mem_append_left _ (List.mem_of_getElem? (i := 6) rfl)), rfl⟩
theorem b_152 : (Cond.instanceMethod y_Decimal_goesAway) ∈ BIG := List.mem_filter.mpr ⟨List.mem_append_right _ (List.mem_append_right _ (List.mem_append_left _ (List.mem_of_getElem? (i := 213) rfl))), rfl⟩
theorem b_153 : (Cond.selects R_Decimal y_Decimal_goesAway y_Decimal_goesAway) ∈ BIG := List.mem_filter.mpr ⟨List.mem_append_left _ (List.mem_map.mpr ⟨_, (List.mem_append_right _ (List.mem_append_left _ (List.mem_of_getElem? (i := 10) rfl))), rfl⟩), rfl⟩
theorem b_154 : (Cond.methodLink R_Decimal 37 y_Decimal_goesAway) ∈ BIG := List.mem_filter.mpr ⟨List.mem_append_right _ (List.mem_append_right _ (List.mem_append_left _ (List.mem_of_getElem? (i := 211) rfl))), rfl⟩
theorem b_155 : (Cond.constantLong R_Decimal 49 10) ∈ BIG := List.mem_filter.mpr ⟨List.mem_append_right _ (List.mem_append_right _ (List.mem_append_right _ (List.mem_append_left _ (List.mem_of_getElem? (i := 27) rfl)))), rfl⟩
theorem b_156 : (Cond.fieldLink R_NumberWriter 26 R_NumberWriter "hasFields" "Z") ∈ BIG := List.mem_filter.mpr ⟨List.mem_append_right _ (List.mem_append_left _ (List.mem_of_getElem? (i := 89) rfl)), rfl⟩
theorem b_157 : (Cond.fieldLink R_NumberWriter 22 R_NumberWriter "edges" "[I") ∈ BIG := List.mem_filter.mpr ⟨List.mem_append_right _ (List.mem_append_left _ (List.mem_of_getElem? (i := 88) rfl)), rfl⟩
theorem b_158 : (Cond.fieldLink R_NumberWriter 12 R_NumberWriter "decimal" "LPatternedDecimals$Decimal;") ∈ BIG := List.mem_filter.mpr ⟨List.mem_append_right _ (List.mem_append_left _ (List.mem_of_getElem? (i := 86) rfl)), rfl⟩
theorem b_159 : (Cond.code y_Deci_digitCount b_Deci_digitCount 3 (some .int)) ∈ BIG := List.mem_filter.mpr ⟨List.mem_append_right _ (List.mem_append_right _ (List.mem_append_left _ (List.mem_of_getElem? (i := 225) rfl))), rfl⟩
theorem b_160 : (Cond.static y_Deci_digitCount) ∈ BIG := List.mem_filter.mpr ⟨List.mem_append_right _ (List.mem_append_right _ (List.mem_append_left _ (List.mem_of_getElem? (i := 224) rfl))), rfl⟩
theorem b_161 : (Cond.fieldLink R_NumberWriter 18 R_NumberWriter "exponent" "I") ∈ BIG := List.mem_filter.mpr ⟨List.mem_append_right _ (List.mem_append_left _ (List.mem_of_getElem? (i := 87) rfl)), rfl⟩
theorem b_162 : (Cond.code y_Decimal_whole b_Decimal_whole 1 (some .long)) ∈ BIG := List.mem_filter.mpr ⟨List.mem_append_right _ (List.mem_append_right _ (List.mem_append_left _ (List.mem_of_getElem? (i := 234) rfl))), rfl⟩
theorem b_163 : (Cond.instanceMethod y_Decimal_whole) ∈ BIG := List.mem_filter.mpr ⟨List.mem_append_right _ (List.mem_append_right _ (List.mem_append_left _ (List.mem_of_getElem? (i := 233) rfl))), rfl⟩
theorem b_164 : (Cond.selects R_Decimal y_Decimal_whole y_Decimal_whole) ∈ BIG := List.mem_filter.mpr ⟨List.mem_append_left _ (List.mem_map.mpr ⟨_, (List.mem_append_right _ (List.mem_append_left _ (List.mem_of_getElem? (i := 13) rfl))), rfl⟩), rfl⟩
theorem b_165 : (Cond.code y_Decimal_set b_Decimal_set 4 none) ∈ BIG := List.mem_filter.mpr ⟨List.mem_append_right _ (List.mem_append_left _ (List.mem_of_getElem? (i := 70) rfl)), rfl⟩
theorem b_166 : (Cond.instanceMethod y_Decimal_set) ∈ BIG := List.mem_filter.mpr ⟨List.mem_append_right _ (List.mem_append_left _ (List.mem_of_getElem? (i := 69) rfl)), rfl⟩
theorem b_167 : (Cond.selects R_Decimal y_Decimal_set y_Decimal_set) ∈ BIG := List.mem_filter.mpr ⟨List.mem_append_left _ (List.mem_map.mpr ⟨_, (List.mem_append_left _ (List.mem_of_getElem? (i := 0) rfl)), rfl⟩), rfl⟩
theorem b_168 : (Cond.code y_Decimal_roundTo b_Decimal_roundTo 9 (some .boolean)) ∈ BIG := List.mem_filter.mpr ⟨List.mem_append_right _ (List.mem_append_right _ (List.mem_append_left _ (List.mem_of_getElem? (i := 199) rfl))), rfl⟩
theorem b_169 : (Cond.instanceMethod y_Decimal_roundTo) ∈ BIG := List.mem_filter.mpr ⟨List.mem_append_right _ (List.mem_append_right _ (List.mem_append_left _ (List.mem_of_getElem? (i := 198) rfl))), rfl⟩
theorem b_170 : (Cond.selects R_Decimal y_Decimal_roundTo y_Decimal_roundTo) ∈ BIG := List.mem_filter.mpr ⟨List.mem_append_left _ (List.mem_map.mpr ⟨_, (List.mem_append_right _ (List.mem_append_left _ (List.mem_of_getElem? (i := 9) rfl))), rfl⟩), rfl⟩
theorem b_171 : (Cond.code y_NumberWriter_takeExponent b_NumberWriter_takeExponent 3 none) ∈ BIG := List.mem_filter.mpr ⟨List.mem_append_right _ (List.mem_append_right _ (List.mem_append_left _ (List.mem_of_getElem? (i := 222) rfl))), rfl⟩
theorem b_172 : (Cond.initialized R_NumberWriter) ∈ BIG := List.mem_filter.mpr ⟨List.mem_append_right _ (List.mem_append_left _ (List.mem_of_getElem? (i := 5) rfl)), rfl⟩
theorem b_173 : (Cond.instanceMethod y_NumberWriter_takeExponent) ∈ BIG := List.mem_filter.mpr ⟨List.mem_append_right _ (List.mem_append_right _ (List.mem_append_left _ (List.mem_of_getElem? (i := 221) rfl))), rfl⟩
theorem b_174 : (Cond.selects R_NumberWriter y_NumberWriter_takeExponent y_NumberWriter_takeExponent) ∈ BIG := List.mem_filter.mpr ⟨List.mem_append_left _ (List.mem_map.mpr ⟨_, (List.mem_append_right _ (List.mem_append_left _ (List.mem_of_getElem? (i := 11) rfl))), rfl⟩), rfl⟩
theorem b_175 : (Cond.methodLink R_NumberWriter 49 y_NumberWriter_takeExponent) ∈ BIG := List.mem_filter.mpr ⟨List.mem_append_right _ (List.mem_append_right _ (List.mem_append_left _ (List.mem_of_getElem? (i := 219) rfl))), rfl⟩
theorem b_176 : (Cond.code y_NumberWriter_carryExponent b_NumberWriter_carryExponent 2 none) ∈ BIG := List.mem_filter.mpr ⟨List.mem_append_right _ (List.mem_append_right _ (List.mem_append_left _ (List.mem_of_getElem? (i := 230) rfl))), rfl⟩
theorem b_177 : (Cond.instanceMethod y_NumberWriter_carryExponent) ∈ BIG := List.mem_filter.mpr ⟨List.mem_append_right _ (List.mem_append_right _ (List.mem_append_left _ (List.mem_of_getElem? (i := 229) rfl))), rfl⟩
theorem b_178 : (Cond.selects R_NumberWriter y_NumberWriter_carryExponent y_NumberWriter_carryExponent) ∈ BIG := List.mem_filter.mpr ⟨List.mem_append_left _ (List.mem_map.mpr ⟨_, (List.mem_append_right _ (List.mem_append_left _ (List.mem_of_getElem? (i := 12) rfl))), rfl⟩), rfl⟩
theorem b_179 : (Cond.methodLink R_NumberWriter 53 y_NumberWriter_carryExponent) ∈ BIG := List.mem_filter.mpr ⟨List.mem_append_right _ (List.mem_append_right _ (List.mem_append_left _ (List.mem_of_getElem? (i := 227) rfl))), rfl⟩
theorem b_180 : (Cond.code y_Decimal_fractionCount b_Decimal_fractionCount 4 (some .int)) ∈ BIG := List.mem_filter.mpr ⟨List.mem_append_right _ (List.mem_append_right _ (List.mem_append_right _ (List.mem_append_left _ (List.mem_of_getElem? (i := 26) rfl)))), rfl⟩
theorem b_181 : (Cond.instanceMethod y_Decimal_fractionCount) ∈ BIG := List.mem_filter.mpr ⟨List.mem_append_right _ (List.mem_append_right _ (List.mem_append_right _ (List.mem_append_left _ (List.mem_of_getElem? (i := 25) rfl)))), rfl⟩
theorem b_182 : (Cond.selects R_Decimal y_Decimal_fractionCount y_Decimal_fractionCount) ∈ BIG := List.mem_filter.mpr ⟨List.mem_append_left _ (List.mem_map.mpr ⟨_, (List.mem_append_right _ (List.mem_append_right _ (List.mem_append_left _ (List.mem_of_getElem? (i := 4) rfl)))), rfl⟩), rfl⟩
theorem b_183 : (Cond.methodLink R_NumberWriter 129 Lib.Math.max.name) ∈ BIG := List.mem_filter.mpr ⟨List.mem_append_right _ (List.mem_append_right _ (List.mem_append_right _ (List.mem_append_left _ (List.mem_of_getElem? (i := 18) rfl)))), rfl⟩
theorem b_184 : (Cond.constantLong R_NumberWriter 160 10) ∈ BIG := List.mem_filter.mpr ⟨List.mem_append_right _ (List.mem_append_right _ (List.mem_append_right _ (List.mem_append_left _ (List.mem_of_getElem? (i := 32) rfl)))), rfl⟩
theorem b_185 : (Cond.code y_NumberWriter_writeDigits b_NumberWriter_writeDigits 6 none) ∈ BIG := List.mem_filter.mpr ⟨List.mem_append_right _ (List.mem_append_right _ (List.mem_append_right _ (List.mem_append_left _ (List.mem_of_getElem? (i := 30) rfl)))), rfl⟩
theorem b_186 : (Cond.static y_NumberWriter_writeDigits) ∈ BIG := List.mem_filter.mpr ⟨List.mem_append_right _ (List.mem_append_right _ (List.mem_append_right _ (List.mem_append_left _ (List.mem_of_getElem? (i := 29) rfl)))), rfl⟩
theorem b_187 : (Cond.methodLink R_NumberWriter 145 y_NumberWriter_writeDigits) ∈ BIG := List.mem_filter.mpr ⟨List.mem_append_right _ (List.mem_append_right _ (List.mem_append_right _ (List.mem_append_left _ (List.mem_of_getElem? (i := 28) rfl)))), rfl⟩
theorem b_188 : (Cond.code y_NumberWriter_shownFraction b_NumberWriter_shownFraction 2 (some .int)) ∈ BIG := List.mem_filter.mpr ⟨List.mem_append_right _ (List.mem_append_right _ (List.mem_append_right _ (List.mem_append_left _ (List.mem_of_getElem? (i := 22) rfl)))), rfl⟩
theorem b_189 : (Cond.instanceMethod y_NumberWriter_shownFraction) ∈ BIG := List.mem_filter.mpr ⟨List.mem_append_right _ (List.mem_append_right _ (List.mem_append_right _ (List.mem_append_left _ (List.mem_of_getElem? (i := 21) rfl)))), rfl⟩
theorem b_190 : (Cond.selects R_NumberWriter y_NumberWriter_shownFraction y_NumberWriter_shownFraction) ∈ BIG := List.mem_filter.mpr ⟨List.mem_append_left _ (List.mem_map.mpr ⟨_, (List.mem_append_right _ (List.mem_append_right _ (List.mem_append_left _ (List.mem_of_getElem? (i := 3) rfl)))), rfl⟩), rfl⟩
theorem b_191 : (Cond.methodLink R_NumberWriter 138 y_NumberWriter_shownFraction) ∈ BIG := List.mem_filter.mpr ⟨List.mem_append_right _ (List.mem_append_right _ (List.mem_append_right _ (List.mem_append_left _ (List.mem_of_getElem? (i := 19) rfl)))), rfl⟩
theorem b_192 : (Cond.code y_Decimal_fractionDigit b_Decimal_fractionDigit 2 (some .int)) ∈ BIG := List.mem_filter.mpr ⟨List.mem_append_right _ (List.mem_append_right _ (List.mem_append_right _ (List.mem_append_left _ (List.mem_of_getElem? (i := 40) rfl)))), rfl⟩
theorem b_193 : (Cond.instanceMethod y_Decimal_fractionDigit) ∈ BIG := List.mem_filter.mpr ⟨List.mem_append_right _ (List.mem_append_right _ (List.mem_append_right _ (List.mem_append_left _ (List.mem_of_getElem? (i := 39) rfl)))), rfl⟩
theorem b_194 : (Cond.selects R_Decimal y_Decimal_fractionDigit y_Decimal_fractionDigit) ∈ BIG := List.mem_filter.mpr ⟨List.mem_append_left _ (List.mem_map.mpr ⟨_, (List.mem_append_right _ (List.mem_append_right _ (List.mem_append_left _ (List.mem_of_getElem? (i := 6) rfl)))), rfl⟩), rfl⟩
theorem b_195 : (Cond.methodLink R_NumberWriter 157 Lib.Math.abs.name) ∈ BIG := List.mem_filter.mpr ⟨List.mem_append_right _ (List.mem_append_right _ (List.mem_append_right _ (List.mem_append_left _ (List.mem_of_getElem? (i := 45) rfl)))), rfl⟩
theorem b_196 : (Cond.static Lib.Math.abs.name) ∈ BIG := List.mem_filter.mpr ⟨List.mem_append_right _ (List.mem_append_right _ (List.mem_append_right _ (List.mem_append_left _ (List.mem_of_getElem? (i := 46) rfl)))), rfl⟩
theorem b_197 : (Cond.code Lib.Math.abs.name Lib.Math.abs.code 1 (some .int)) ∈ BIG := List.mem_filter.mpr ⟨List.mem_append_right _ (List.mem_append_right _ (List.mem_append_right _ (List.mem_append_left _ (List.mem_of_getElem? (i := 47) rfl)))), rfl⟩
theorem b_198 : (Cond.code y_Decimal_isBelowZero b_Decimal_isBelowZero 1 (some .boolean)) ∈ BIG := List.mem_filter.mpr ⟨List.mem_append_right _ (List.mem_append_right _ (List.mem_append_right _ (List.mem_append_left _ (List.mem_of_getElem? (i := 2) rfl)))), rfl⟩
theorem b_199 : (Cond.instanceMethod y_Decimal_isBelowZero) ∈ BIG := List.mem_filter.mpr ⟨List.mem_append_right _ (List.mem_append_right _ (List.mem_append_right _ (List.mem_append_left _ (List.mem_of_getElem? (i := 1) rfl)))), rfl⟩
theorem b_200 : (Cond.selects R_Decimal y_Decimal_isBelowZero y_Decimal_isBelowZero) ∈ BIG := List.mem_filter.mpr ⟨List.mem_append_left _ (List.mem_map.mpr ⟨_, (List.mem_append_right _ (List.mem_append_left _ (List.mem_of_getElem? (i := 15) rfl))), rfl⟩), rfl⟩
theorem b_201 : (Cond.code y_Affix_show b_Affix_show 3 none) ∈ BIG := List.mem_filter.mpr ⟨List.mem_append_right _ (List.mem_append_right _ (List.mem_append_right _ (List.mem_append_left _ (List.mem_of_getElem? (i := 7) rfl)))), rfl⟩
theorem b_202 : (Cond.instanceMethod y_Affix_show) ∈ BIG := List.mem_filter.mpr ⟨List.mem_append_right _ (List.mem_append_right _ (List.mem_append_right _ (List.mem_append_left _ (List.mem_of_getElem? (i := 6) rfl)))), rfl⟩
theorem b_203 : (Cond.selects R_Affix y_Affix_show y_Affix_show) ∈ BIG := List.mem_filter.mpr ⟨List.mem_append_left _ (List.mem_map.mpr ⟨_, (List.mem_append_right _ (List.mem_append_right _ (List.mem_append_left _ (List.mem_of_getElem? (i := 0) rfl)))), rfl⟩), rfl⟩
theorem b_204 : (Cond.code y_NumberWriter_writeInteger b_NumberWriter_writeInteger 4 none) ∈ BIG := List.mem_filter.mpr ⟨List.mem_append_right _ (List.mem_append_right _ (List.mem_append_right _ (List.mem_append_left _ (List.mem_of_getElem? (i := 16) rfl)))), rfl⟩
theorem b_205 : (Cond.instanceMethod y_NumberWriter_writeInteger) ∈ BIG := List.mem_filter.mpr ⟨List.mem_append_right _ (List.mem_append_right _ (List.mem_append_right _ (List.mem_append_left _ (List.mem_of_getElem? (i := 15) rfl)))), rfl⟩
theorem b_206 : (Cond.selects R_NumberWriter y_NumberWriter_writeInteger y_NumberWriter_writeInteger) ∈ BIG := List.mem_filter.mpr ⟨List.mem_append_left _ (List.mem_map.mpr ⟨_, (List.mem_append_right _ (List.mem_append_right _ (List.mem_append_left _ (List.mem_of_getElem? (i := 2) rfl)))), rfl⟩), rfl⟩
theorem b_207 : (Cond.methodLink R_NumberWriter 109 y_NumberWriter_writeInteger) ∈ BIG := List.mem_filter.mpr ⟨List.mem_append_right _ (List.mem_append_right _ (List.mem_append_right _ (List.mem_append_left _ (List.mem_of_getElem? (i := 13) rfl)))), rfl⟩
theorem b_208 : (Cond.code y_NumberWriter_writeFraction b_NumberWriter_writeFraction 5 none) ∈ BIG := List.mem_filter.mpr ⟨List.mem_append_right _ (List.mem_append_right _ (List.mem_append_right _ (List.mem_append_left _ (List.mem_of_getElem? (i := 36) rfl)))), rfl⟩
theorem b_209 : (Cond.instanceMethod y_NumberWriter_writeFraction) ∈ BIG := List.mem_filter.mpr ⟨List.mem_append_right _ (List.mem_append_right _ (List.mem_append_right _ (List.mem_append_left _ (List.mem_of_getElem? (i := 35) rfl)))), rfl⟩
theorem b_210 : (Cond.selects R_NumberWriter y_NumberWriter_writeFraction y_NumberWriter_writeFraction) ∈ BIG := List.mem_filter.mpr ⟨List.mem_append_left _ (List.mem_map.mpr ⟨_, (List.mem_append_right _ (List.mem_append_right _ (List.mem_append_left _ (List.mem_of_getElem? (i := 5) rfl)))), rfl⟩), rfl⟩
theorem b_211 : (Cond.methodLink R_NumberWriter 113 y_NumberWriter_writeFraction) ∈ BIG := List.mem_filter.mpr ⟨List.mem_append_right _ (List.mem_append_right _ (List.mem_append_right _ (List.mem_append_left _ (List.mem_of_getElem? (i := 33) rfl)))), rfl⟩
theorem b_212 : (Cond.code y_NumberWriter_writeExponent b_NumberWriter_writeExponent 5 none) ∈ BIG := List.mem_filter.mpr ⟨List.mem_append_right _ (List.mem_append_right _ (List.mem_append_right _ (List.mem_append_left _ (List.mem_of_getElem? (i := 44) rfl)))), rfl⟩
theorem b_213 : (Cond.instanceMethod y_NumberWriter_writeExponent) ∈ BIG := List.mem_filter.mpr ⟨List.mem_append_right _ (List.mem_append_right _ (List.mem_append_right _ (List.mem_append_left _ (List.mem_of_getElem? (i := 43) rfl)))), rfl⟩
theorem b_214 : (Cond.selects R_NumberWriter y_NumberWriter_writeExponent y_NumberWriter_writeExponent) ∈ BIG := List.mem_filter.mpr ⟨List.mem_append_left _ (List.mem_map.mpr ⟨_, (List.mem_append_right _ (List.mem_append_right _ (List.mem_append_left _ (List.mem_of_getElem? (i := 7) rfl)))), rfl⟩), rfl⟩
theorem b_215 : (Cond.methodLink R_NumberWriter 116 y_NumberWriter_writeExponent) ∈ BIG := List.mem_filter.mpr ⟨List.mem_append_right _ (List.mem_append_right _ (List.mem_append_right _ (List.mem_append_left _ (List.mem_of_getElem? (i := 41) rfl)))), rfl⟩
theorem b_216 : (Cond.fieldLink R_NumberReader 9 R_NumberReader "begin" "I") ∈ BIG := List.mem_filter.mpr ⟨List.mem_append_right _ (List.mem_append_left _ (List.mem_of_getElem? (i := 110) rfl)), rfl⟩
theorem b_217 : (Cond.fieldLink R_NumberReader 15 R_NumberReader "end" "I") ∈ BIG := List.mem_filter.mpr ⟨List.mem_append_right _ (List.mem_append_left _ (List.mem_of_getElem? (i := 111) rfl)), rfl⟩
theorem b_218 : (Cond.fieldLink R_NumberReader 91 R_NumberReader "place" "I") ∈ BIG := List.mem_filter.mpr ⟨List.mem_append_right _ (List.mem_append_left _ (List.mem_of_getElem? (i := 112) rfl)), rfl⟩
theorem b_219 : (Cond.fieldLink R_NumberReader 94 R_NumberReader "allDigits" "I") ∈ BIG := List.mem_filter.mpr ⟨List.mem_append_right _ (List.mem_append_left _ (List.mem_of_getElem? (i := 114) rfl)), rfl⟩
theorem b_220 : (Cond.fieldLink R_NumberReader 33 R_NumberReader "fractionDigits" "I") ∈ BIG := List.mem_filter.mpr ⟨List.mem_append_right _ (List.mem_append_left _ (List.mem_of_getElem? (i := 115) rfl)), rfl⟩
theorem b_221 : (Cond.fieldLink R_NumberReader 39 R_NumberReader "exponent" "I") ∈ BIG := List.mem_filter.mpr ⟨List.mem_append_right _ (List.mem_append_left _ (List.mem_of_getElem? (i := 116) rfl)), rfl⟩
theorem b_222 : (Cond.fieldLink R_NumberReader 29 R_NumberReader "digits" "J") ∈ BIG := List.mem_filter.mpr ⟨List.mem_append_right _ (List.mem_append_left _ (List.mem_of_getElem? (i := 117) rfl)), rfl⟩
theorem b_223 : (Cond.fieldLink R_NumberReader 68 R_NumberReader "digitsCounted" "I") ∈ BIG := List.mem_filter.mpr ⟨List.mem_append_right _ (List.mem_append_left _ (List.mem_of_getElem? (i := 118) rfl)), rfl⟩
theorem b_224 : (Cond.fieldLink R_NumberReader 36 R_NumberReader "zerosBehind" "I") ∈ BIG := List.mem_filter.mpr ⟨List.mem_append_right _ (List.mem_append_left _ (List.mem_of_getElem? (i := 119) rfl)), rfl⟩
theorem b_225 : (Cond.fieldLink R_NumberReader 21 R_NumberReader "negative" "Z") ∈ BIG := List.mem_filter.mpr ⟨List.mem_append_right _ (List.mem_append_left _ (List.mem_of_getElem? (i := 113) rfl)), rfl⟩
theorem b_226 : (Cond.fieldLink R_NumberReader 18 R_NumberReader "percentPlaces" "I") ∈ BIG := List.mem_filter.mpr ⟨List.mem_append_right _ (List.mem_append_left _ (List.mem_of_getElem? (i := 120) rfl)), rfl⟩
theorem b_227 : (Cond.code y_NumberReader_startBody b_NumberReader_startBody 3 none) ∈ BIG := List.mem_filter.mpr ⟨List.mem_append_right _ (List.mem_append_left _ (List.mem_of_getElem? (i := 109) rfl)), rfl⟩
theorem b_228 : (Cond.initialized R_NumberReader) ∈ BIG := List.mem_filter.mpr ⟨List.mem_append_right _ (List.mem_append_left _ (List.mem_of_getElem? (i := 8) rfl)), rfl⟩
theorem b_229 : (Cond.instanceMethod y_NumberReader_startBody) ∈ BIG := List.mem_filter.mpr ⟨List.mem_append_right _ (List.mem_append_left _ (List.mem_of_getElem? (i := 108) rfl)), rfl⟩
theorem b_230 : (Cond.selects R_NumberReader y_NumberReader_startBody y_NumberReader_startBody) ∈ BIG := List.mem_filter.mpr ⟨List.mem_append_left _ (List.mem_map.mpr ⟨_, (List.mem_append_left _ (List.mem_of_getElem? (i := 1) rfl)), rfl⟩), rfl⟩
theorem b_231 : (Cond.methodLink R_NumberReader 25 y_NumberReader_startBody) ∈ BIG := List.mem_filter.mpr ⟨List.mem_append_right _ (List.mem_append_left _ (List.mem_of_getElem? (i := 106) rfl)), rfl⟩
theorem b_232 : (Cond.code y_Affix_standsIn b_Affix_standsIn 4 (some .boolean)) ∈ BIG := List.mem_filter.mpr ⟨List.mem_append_right _ (List.mem_append_right _ (List.mem_append_right _ (List.mem_append_left _ (List.mem_of_getElem? (i := 138) rfl)))), rfl⟩
theorem b_233 : (Cond.instanceMethod y_Affix_standsIn) ∈ BIG := List.mem_filter.mpr ⟨List.mem_append_right _ (List.mem_append_right _ (List.mem_append_right _ (List.mem_append_left _ (List.mem_of_getElem? (i := 137) rfl)))), rfl⟩
theorem b_234 : (Cond.selects R_Affix y_Affix_standsIn y_Affix_standsIn) ∈ BIG := List.mem_filter.mpr ⟨List.mem_append_left _ (List.mem_map.mpr ⟨_, (List.mem_append_right _ (List.mem_append_right _ (List.mem_append_right _ (List.mem_append_left _ (List.mem_of_getElem? (i := 4) rfl))))), rfl⟩), rfl⟩
theorem b_235 : (Cond.code y_NumberReader_bodyAt b_NumberReader_bodyAt 3 (some .int)) ∈ BIG := List.mem_filter.mpr ⟨List.mem_append_right _ (List.mem_append_right _ (List.mem_append_right _ (List.mem_append_left _ (List.mem_of_getElem? (i := 151) rfl)))), rfl⟩
theorem b_236 : (Cond.instanceMethod y_NumberReader_bodyAt) ∈ BIG := List.mem_filter.mpr ⟨List.mem_append_right _ (List.mem_append_right _ (List.mem_append_right _ (List.mem_append_left _ (List.mem_of_getElem? (i := 150) rfl)))), rfl⟩
theorem b_237 : (Cond.selects R_NumberReader y_NumberReader_bodyAt y_NumberReader_bodyAt) ∈ BIG := List.mem_filter.mpr ⟨List.mem_append_left _ (List.mem_map.mpr ⟨_, (List.mem_append_right _ (List.mem_append_right _ (List.mem_append_right _ (List.mem_append_left _ (List.mem_of_getElem? (i := 7) rfl))))), rfl⟩), rfl⟩
theorem b_238 : (Cond.methodLink R_NumberReader 110 y_NumberReader_bodyAt) ∈ BIG := List.mem_filter.mpr ⟨List.mem_append_right _ (List.mem_append_right _ (List.mem_append_right _ (List.mem_append_left _ (List.mem_of_getElem? (i := 148) rfl)))), rfl⟩
theorem b_239 : (Cond.code y_Deci_isDigit b_Deci_isDigit 1 (some .boolean)) ∈ BIG := List.mem_filter.mpr ⟨List.mem_append_right _ (List.mem_append_right _ (List.mem_append_right _ (List.mem_append_left _ (List.mem_of_getElem? (i := 155) rfl)))), rfl⟩
theorem b_240 : (Cond.static y_Deci_isDigit) ∈ BIG := List.mem_filter.mpr ⟨List.mem_append_right _ (List.mem_append_right _ (List.mem_append_right _ (List.mem_append_left _ (List.mem_of_getElem? (i := 154) rfl)))), rfl⟩
theorem b_241 : (Cond.code y_NumberReader_isBetweenDigits b_NumberReader_isBetweenDigits 2 (some .boolean)) ∈ BIG := List.mem_filter.mpr ⟨List.mem_append_right _ (List.mem_append_right _ (List.mem_append_right _ (List.mem_append_left _ (List.mem_of_getElem? (i := 164) rfl)))), rfl⟩
theorem b_242 : (Cond.instanceMethod y_NumberReader_isBetweenDigits) ∈ BIG := List.mem_filter.mpr ⟨List.mem_append_right _ (List.mem_append_right _ (List.mem_append_right _ (List.mem_append_left _ (List.mem_of_getElem? (i := 163) rfl)))), rfl⟩
theorem b_243 : (Cond.selects R_NumberReader y_NumberReader_isBetweenDigits y_NumberReader_isBetweenDigits) ∈ BIG := List.mem_filter.mpr ⟨List.mem_append_left _ (List.mem_map.mpr ⟨_, (List.mem_append_right _ (List.mem_append_right _ (List.mem_append_right _ (List.mem_append_left _ (List.mem_of_getElem? (i := 9) rfl))))), rfl⟩), rfl⟩
theorem b_244 : (Cond.methodLink R_NumberReader 133 y_NumberReader_isBetweenDigits) ∈ BIG := List.mem_filter.mpr ⟨List.mem_append_right _ (List.mem_append_right _ (List.mem_append_right _ (List.mem_append_left _ (List.mem_of_getElem? (i := 161) rfl)))), rfl⟩
theorem b_245 : (Cond.code y_NumberReader_takeDigit b_NumberReader_takeDigit 2 none) ∈ BIG := List.mem_filter.mpr ⟨List.mem_append_right _ (List.mem_append_right _ (List.mem_append_right _ (List.mem_append_left _ (List.mem_of_getElem? (i := 159) rfl)))), rfl⟩
theorem b_246 : (Cond.instanceMethod y_NumberReader_takeDigit) ∈ BIG := List.mem_filter.mpr ⟨List.mem_append_right _ (List.mem_append_right _ (List.mem_append_right _ (List.mem_append_left _ (List.mem_of_getElem? (i := 158) rfl)))), rfl⟩
theorem b_247 : (Cond.selects R_NumberReader y_NumberReader_takeDigit y_NumberReader_takeDigit) ∈ BIG := List.mem_filter.mpr ⟨List.mem_append_left _ (List.mem_map.mpr ⟨_, (List.mem_append_right _ (List.mem_append_right _ (List.mem_append_right _ (List.mem_append_left _ (List.mem_of_getElem? (i := 8) rfl))))), rfl⟩), rfl⟩
theorem b_248 : (Cond.methodLink R_NumberReader 129 y_NumberReader_takeDigit) ∈ BIG := List.mem_filter.mpr ⟨List.mem_append_right _ (List.mem_append_right _ (List.mem_append_right _ (List.mem_append_left _ (List.mem_of_getElem? (i := 156) rfl)))), rfl⟩
theorem b_249 : (Cond.code y_NumberReader_readInteger b_NumberReader_readInteger 4 none) ∈ BIG := List.mem_filter.mpr ⟨List.mem_append_right _ (List.mem_append_right _ (List.mem_append_right _ (List.mem_append_left _ (List.mem_of_getElem? (i := 147) rfl)))), rfl⟩
theorem b_250 : (Cond.instanceMethod y_NumberReader_readInteger) ∈ BIG := List.mem_filter.mpr ⟨List.mem_append_right _ (List.mem_append_right _ (List.mem_append_right _ (List.mem_append_left _ (List.mem_of_getElem? (i := 146) rfl)))), rfl⟩
theorem b_251 : (Cond.selects R_NumberReader y_NumberReader_readInteger y_NumberReader_readInteger) ∈ BIG := List.mem_filter.mpr ⟨List.mem_append_left _ (List.mem_map.mpr ⟨_, (List.mem_append_right _ (List.mem_append_right _ (List.mem_append_right _ (List.mem_append_left _ (List.mem_of_getElem? (i := 6) rfl))))), rfl⟩), rfl⟩
theorem b_252 : (Cond.methodLink R_NumberReader 106 y_NumberReader_readInteger) ∈ BIG := List.mem_filter.mpr ⟨List.mem_append_right _ (List.mem_append_right _ (List.mem_append_right _ (List.mem_append_left _ (List.mem_of_getElem? (i := 144) rfl)))), rfl⟩
theorem b_253 : (Cond.code y_NumberReader_readExponent b_NumberReader_readExponent 5 (some .boolean)) ∈ BIG := List.mem_filter.mpr ⟨List.mem_append_right _ (List.mem_append_right _ (List.mem_append_right _ (List.mem_append_left _ (List.mem_of_getElem? (i := 172) rfl)))), rfl⟩
theorem b_254 : (Cond.instanceMethod y_NumberReader_readExponent) ∈ BIG := List.mem_filter.mpr ⟨List.mem_append_right _ (List.mem_append_right _ (List.mem_append_right _ (List.mem_append_left _ (List.mem_of_getElem? (i := 171) rfl)))), rfl⟩
theorem b_255 : (Cond.selects R_NumberReader y_NumberReader_readExponent y_NumberReader_readExponent) ∈ BIG := List.mem_filter.mpr ⟨List.mem_append_left _ (List.mem_map.mpr ⟨_, (List.mem_append_right _ (List.mem_append_right _ (List.mem_append_right _ (List.mem_append_left _ (List.mem_of_getElem? (i := 11) rfl))))), rfl⟩), rfl⟩
theorem b_256 : (Cond.methodLink R_NumberReader 121 y_NumberReader_readExponent) ∈ BIG := List.mem_filter.mpr ⟨List.mem_append_right _ (List.mem_append_right _ (List.mem_append_right _ (List.mem_append_left _ (List.mem_of_getElem? (i := 169) rfl)))), rfl⟩
theorem b_257 : (Cond.code y_NumberReader_readFraction b_NumberReader_readFraction 2 none) ∈ BIG := List.mem_filter.mpr ⟨List.mem_append_right _ (List.mem_append_right _ (List.mem_append_right _ (List.mem_append_left _ (List.mem_of_getElem? (i := 168) rfl)))), rfl⟩
theorem b_258 : (Cond.instanceMethod y_NumberReader_readFraction) ∈ BIG := List.mem_filter.mpr ⟨List.mem_append_right _ (List.mem_append_right _ (List.mem_append_right _ (List.mem_append_left _ (List.mem_of_getElem? (i := 167) rfl)))), rfl⟩
theorem b_259 : (Cond.selects R_NumberReader y_NumberReader_readFraction y_NumberReader_readFraction) ∈ BIG := List.mem_filter.mpr ⟨List.mem_append_left _ (List.mem_map.mpr ⟨_, (List.mem_append_right _ (List.mem_append_right _ (List.mem_append_right _ (List.mem_append_left _ (List.mem_of_getElem? (i := 10) rfl))))), rfl⟩), rfl⟩
theorem b_260 : (Cond.methodLink R_NumberReader 114 y_NumberReader_readFraction) ∈ BIG := List.mem_filter.mpr ⟨List.mem_append_right _ (List.mem_append_right _ (List.mem_append_right _ (List.mem_append_left _ (List.mem_of_getElem? (i := 165) rfl)))), rfl⟩
theorem b_261 : (Cond.code y_NumberReader_startBetween b_NumberReader_startBetween 5 (some .boolean)) ∈ BIG := List.mem_filter.mpr ⟨List.mem_append_right _ (List.mem_append_right _ (List.mem_append_right _ (List.mem_append_left _ (List.mem_of_getElem? (i := 132) rfl)))), rfl⟩
theorem b_262 : (Cond.instanceMethod y_NumberReader_startBetween) ∈ BIG := List.mem_filter.mpr ⟨List.mem_append_right _ (List.mem_append_right _ (List.mem_append_right _ (List.mem_append_left _ (List.mem_of_getElem? (i := 131) rfl)))), rfl⟩
theorem b_263 : (Cond.selects R_NumberReader y_NumberReader_startBetween y_NumberReader_startBetween) ∈ BIG := List.mem_filter.mpr ⟨List.mem_append_left _ (List.mem_map.mpr ⟨_, (List.mem_append_right _ (List.mem_append_right _ (List.mem_append_right _ (List.mem_append_left _ (List.mem_of_getElem? (i := 3) rfl))))), rfl⟩), rfl⟩
theorem b_264 : (Cond.methodLink R_NumberReader 57 y_NumberReader_startBetween) ∈ BIG := List.mem_filter.mpr ⟨List.mem_append_right _ (List.mem_append_right _ (List.mem_append_right _ (List.mem_append_left _ (List.mem_of_getElem? (i := 129) rfl)))), rfl⟩
theorem b_265 : (Cond.code y_NumberReader_readBody b_NumberReader_readBody 3 (some .boolean)) ∈ BIG := List.mem_filter.mpr ⟨List.mem_append_right _ (List.mem_append_right _ (List.mem_append_right _ (List.mem_append_left _ (List.mem_of_getElem? (i := 143) rfl)))), rfl⟩
theorem b_266 : (Cond.instanceMethod y_NumberReader_readBody) ∈ BIG := List.mem_filter.mpr ⟨List.mem_append_right _ (List.mem_append_right _ (List.mem_append_right _ (List.mem_append_left _ (List.mem_of_getElem? (i := 142) rfl)))), rfl⟩
theorem b_267 : (Cond.selects R_NumberReader y_NumberReader_readBody y_NumberReader_readBody) ∈ BIG := List.mem_filter.mpr ⟨List.mem_append_left _ (List.mem_map.mpr ⟨_, (List.mem_append_right _ (List.mem_append_right _ (List.mem_append_right _ (List.mem_append_left _ (List.mem_of_getElem? (i := 5) rfl))))), rfl⟩), rfl⟩
theorem b_268 : (Cond.methodLink R_NumberReader 61 y_NumberReader_readBody) ∈ BIG := List.mem_filter.mpr ⟨List.mem_append_right _ (List.mem_append_right _ (List.mem_append_right _ (List.mem_append_left _ (List.mem_of_getElem? (i := 140) rfl)))), rfl⟩
theorem b_269 : (Cond.fieldLink R_Deci 10 R_Deci "typed" "LPatternedDecimals$Row;") ∈ BIG := List.mem_filter.mpr ⟨List.mem_append_right _ (List.mem_append_right _ (List.mem_append_left _ (List.mem_of_getElem? (i := 31) rfl))), rfl⟩
theorem b_270 : (Cond.fieldLink R_Deci 22 R_Deci "patternReader" "LPatternedDecimals$PatternReader;") ∈ BIG := List.mem_filter.mpr ⟨List.mem_append_right _ (List.mem_append_right _ (List.mem_append_left _ (List.mem_of_getElem? (i := 33) rfl))), rfl⟩
theorem b_271 : (Cond.fieldLink R_Deci 54 R_Deci "spare" "LPatternedDecimals$Pattern;") ∈ BIG := List.mem_filter.mpr ⟨List.mem_append_right _ (List.mem_append_right _ (List.mem_append_left _ (List.mem_of_getElem? (i := 38) rfl))), rfl⟩
theorem b_272 : (Cond.code y_PatternReader_read b_PatternReader_read 3 (some .int)) ∈ BIG := List.mem_filter.mpr ⟨List.mem_append_right _ (List.mem_append_right _ (List.mem_append_left _ (List.mem_of_getElem? (i := 99) rfl))), rfl⟩
theorem b_273 : (Cond.instanceMethod y_PatternReader_read) ∈ BIG := List.mem_filter.mpr ⟨List.mem_append_right _ (List.mem_append_right _ (List.mem_append_left _ (List.mem_of_getElem? (i := 98) rfl))), rfl⟩
theorem b_274 : (Cond.selects R_PatternReader y_PatternReader_read y_PatternReader_read) ∈ BIG := List.mem_filter.mpr ⟨List.mem_append_left _ (List.mem_map.mpr ⟨_, (List.mem_append_left _ (List.mem_of_getElem? (i := 6) rfl)), rfl⟩), rfl⟩
theorem b_275 : (Cond.code y_Pattern_complete b_Pattern_complete 1 none) ∈ BIG := List.mem_filter.mpr ⟨List.mem_append_right _ (List.mem_append_right _ (List.mem_append_left _ (List.mem_of_getElem? (i := 160) rfl))), rfl⟩
theorem b_276 : (Cond.instanceMethod y_Pattern_complete) ∈ BIG := List.mem_filter.mpr ⟨List.mem_append_right _ (List.mem_append_right _ (List.mem_append_left _ (List.mem_of_getElem? (i := 159) rfl))), rfl⟩
theorem b_277 : (Cond.selects R_Pattern y_Pattern_complete y_Pattern_complete) ∈ BIG := List.mem_filter.mpr ⟨List.mem_append_left _ (List.mem_map.mpr ⟨_, (List.mem_append_right _ (List.mem_append_left _ (List.mem_of_getElem? (i := 4) rfl))), rfl⟩), rfl⟩
theorem b_278 : (Cond.fieldLink R_Deci 50 R_Deci "pattern" "LPatternedDecimals$Pattern;") ∈ BIG := List.mem_filter.mpr ⟨List.mem_append_right _ (List.mem_append_right _ (List.mem_append_left _ (List.mem_of_getElem? (i := 37) rfl))), rfl⟩
theorem b_279 : (Cond.fieldLink R_Deci 61 R_Deci "roundingMode" "I") ∈ BIG := List.mem_filter.mpr ⟨List.mem_append_right _ (List.mem_append_right _ (List.mem_append_left _ (List.mem_of_getElem? (i := 40) rfl))), rfl⟩
theorem b_280 : (Cond.fieldLink R_Deci 57 R_Deci "hasPattern" "Z") ∈ BIG := List.mem_filter.mpr ⟨List.mem_append_right _ (List.mem_append_right _ (List.mem_append_left _ (List.mem_of_getElem? (i := 39) rfl))), rfl⟩
theorem b_281 : (Cond.constantLong R_Deci 123 (-999999999999999)) ∈ BIG := List.mem_filter.mpr ⟨List.mem_append_right _ (List.mem_append_right _ (List.mem_append_left _ (List.mem_of_getElem? (i := 188) rfl))), rfl⟩
theorem b_282 : (Cond.constantLong R_Deci 125 999999999999999) ∈ BIG := List.mem_filter.mpr ⟨List.mem_append_right _ (List.mem_append_right _ (List.mem_append_left _ (List.mem_of_getElem? (i := 189) rfl))), rfl⟩
theorem b_283 : (Cond.fieldLink R_Deci 36 R_Deci "numberWriter" "LPatternedDecimals$NumberWriter;") ∈ BIG := List.mem_filter.mpr ⟨List.mem_append_right _ (List.mem_append_right _ (List.mem_append_left _ (List.mem_of_getElem? (i := 35) rfl))), rfl⟩
theorem b_284 : (Cond.code y_NumberWriter_prepare b_NumberWriter_prepare 6 (some .boolean)) ∈ BIG := List.mem_filter.mpr ⟨List.mem_append_right _ (List.mem_append_right _ (List.mem_append_left _ (List.mem_of_getElem? (i := 194) rfl))), rfl⟩
theorem b_285 : (Cond.instanceMethod y_NumberWriter_prepare) ∈ BIG := List.mem_filter.mpr ⟨List.mem_append_right _ (List.mem_append_right _ (List.mem_append_left _ (List.mem_of_getElem? (i := 193) rfl))), rfl⟩
theorem b_286 : (Cond.selects R_NumberWriter y_NumberWriter_prepare y_NumberWriter_prepare) ∈ BIG := List.mem_filter.mpr ⟨List.mem_append_left _ (List.mem_map.mpr ⟨_, (List.mem_append_right _ (List.mem_append_left _ (List.mem_of_getElem? (i := 8) rfl))), rfl⟩), rfl⟩
theorem b_287 : (Cond.fieldLink R_Deci 16 R_Deci "written" "LPatternedDecimals$Row;") ∈ BIG := List.mem_filter.mpr ⟨List.mem_append_right _ (List.mem_append_right _ (List.mem_append_left _ (List.mem_of_getElem? (i := 32) rfl))), rfl⟩
theorem b_288 : (Cond.code y_NumberWriter_write b_NumberWriter_write 5 none) ∈ BIG := List.mem_filter.mpr ⟨List.mem_append_right _ (List.mem_append_right _ (List.mem_append_left _ (List.mem_of_getElem? (i := 238) rfl))), rfl⟩
theorem b_289 : (Cond.instanceMethod y_NumberWriter_write) ∈ BIG := List.mem_filter.mpr ⟨List.mem_append_right _ (List.mem_append_right _ (List.mem_append_left _ (List.mem_of_getElem? (i := 237) rfl))), rfl⟩
theorem b_290 : (Cond.selects R_NumberWriter y_NumberWriter_write y_NumberWriter_write) ∈ BIG := List.mem_filter.mpr ⟨List.mem_append_left _ (List.mem_map.mpr ⟨_, (List.mem_append_right _ (List.mem_append_left _ (List.mem_of_getElem? (i := 14) rfl))), rfl⟩), rfl⟩
theorem b_291 : (Cond.constantLong R_Deci 127 100) ∈ BIG := List.mem_filter.mpr ⟨List.mem_append_right _ (List.mem_append_right _ (List.mem_append_left _ (List.mem_of_getElem? (i := 190) rfl))), rfl⟩
theorem b_292 : (Cond.fieldLink R_Deci 29 R_Deci "patternWriter" "LPatternedDecimals$PatternWriter;") ∈ BIG := List.mem_filter.mpr ⟨List.mem_append_right _ (List.mem_append_right _ (List.mem_append_left _ (List.mem_of_getElem? (i := 34) rfl))), rfl⟩
theorem b_293 : (Cond.code y_PatternWriter_write b_PatternWriter_write 3 none) ∈ BIG := List.mem_filter.mpr ⟨List.mem_append_right _ (List.mem_append_right _ (List.mem_append_right _ (List.mem_append_left _ (List.mem_of_getElem? (i := 55) rfl)))), rfl⟩
theorem b_294 : (Cond.instanceMethod y_PatternWriter_write) ∈ BIG := List.mem_filter.mpr ⟨List.mem_append_right _ (List.mem_append_right _ (List.mem_append_right _ (List.mem_append_left _ (List.mem_of_getElem? (i := 54) rfl)))), rfl⟩
theorem b_295 : (Cond.selects R_PatternWriter y_PatternWriter_write y_PatternWriter_write) ∈ BIG := List.mem_filter.mpr ⟨List.mem_append_left _ (List.mem_map.mpr ⟨_, (List.mem_append_right _ (List.mem_append_right _ (List.mem_append_left _ (List.mem_of_getElem? (i := 8) rfl)))), rfl⟩), rfl⟩
theorem b_296 : (Cond.code y_NumberWriter_forgetFields b_NumberWriter_forgetFields 1 none) ∈ BIG := List.mem_filter.mpr ⟨List.mem_append_right _ (List.mem_append_right _ (List.mem_append_right _ (List.mem_append_left _ (List.mem_of_getElem? (i := 96) rfl)))), rfl⟩
theorem b_297 : (Cond.instanceMethod y_NumberWriter_forgetFields) ∈ BIG := List.mem_filter.mpr ⟨List.mem_append_right _ (List.mem_append_right _ (List.mem_append_right _ (List.mem_append_left _ (List.mem_of_getElem? (i := 95) rfl)))), rfl⟩
theorem b_298 : (Cond.selects R_NumberWriter y_NumberWriter_forgetFields y_NumberWriter_forgetFields) ∈ BIG := List.mem_filter.mpr ⟨List.mem_append_left _ (List.mem_map.mpr ⟨_, (List.mem_append_right _ (List.mem_append_right _ (List.mem_append_left _ (List.mem_of_getElem? (i := 15) rfl)))), rfl⟩), rfl⟩
theorem b_299 : (Cond.code y_NumberWriter_fieldEdge b_NumberWriter_fieldEdge 3 (some .int)) ∈ BIG := List.mem_filter.mpr ⟨List.mem_append_right _ (List.mem_append_right _ (List.mem_append_right _ (List.mem_append_left _ (List.mem_of_getElem? (i := 109) rfl)))), rfl⟩
theorem b_300 : (Cond.instanceMethod y_NumberWriter_fieldEdge) ∈ BIG := List.mem_filter.mpr ⟨List.mem_append_right _ (List.mem_append_right _ (List.mem_append_right _ (List.mem_append_left _ (List.mem_of_getElem? (i := 108) rfl)))), rfl⟩
theorem b_301 : (Cond.selects R_NumberWriter y_NumberWriter_fieldEdge y_NumberWriter_fieldEdge) ∈ BIG := List.mem_filter.mpr ⟨List.mem_append_left _ (List.mem_map.mpr ⟨_, (List.mem_append_right _ (List.mem_append_right _ (List.mem_append_right _ (List.mem_append_left _ (List.mem_of_getElem? (i := 0) rfl))))), rfl⟩), rfl⟩
theorem b_302 : (Cond.code y_Row_become b_Row_become 2 none) ∈ BIG := List.mem_filter.mpr ⟨List.mem_append_right _ (List.mem_append_right _ (List.mem_append_right _ (List.mem_append_left _ (List.mem_of_getElem? (i := 117) rfl)))), rfl⟩
theorem b_303 : (Cond.instanceMethod y_Row_become) ∈ BIG := List.mem_filter.mpr ⟨List.mem_append_right _ (List.mem_append_right _ (List.mem_append_right _ (List.mem_append_left _ (List.mem_of_getElem? (i := 116) rfl)))), rfl⟩
theorem b_304 : (Cond.selects R_Row y_Row_become y_Row_become) ∈ BIG := List.mem_filter.mpr ⟨List.mem_append_left _ (List.mem_map.mpr ⟨_, (List.mem_append_right _ (List.mem_append_right _ (List.mem_append_right _ (List.mem_append_left _ (List.mem_of_getElem? (i := 1) rfl))))), rfl⟩), rfl⟩
theorem b_305 : (Cond.fieldLink R_Deci 43 R_Deci "numberReader" "LPatternedDecimals$NumberReader;") ∈ BIG := List.mem_filter.mpr ⟨List.mem_append_right _ (List.mem_append_right _ (List.mem_append_left _ (List.mem_of_getElem? (i := 36) rfl))), rfl⟩
theorem b_306 : (Cond.code y_NumberReader_read b_NumberReader_read 4 (some .boolean)) ∈ BIG := List.mem_filter.mpr ⟨List.mem_append_right _ (List.mem_append_right _ (List.mem_append_right _ (List.mem_append_left _ (List.mem_of_getElem? (i := 128) rfl)))), rfl⟩
theorem b_307 : (Cond.instanceMethod y_NumberReader_read) ∈ BIG := List.mem_filter.mpr ⟨List.mem_append_right _ (List.mem_append_right _ (List.mem_append_right _ (List.mem_append_left _ (List.mem_of_getElem? (i := 127) rfl)))), rfl⟩
theorem b_308 : (Cond.selects R_NumberReader y_NumberReader_read y_NumberReader_read) ∈ BIG := List.mem_filter.mpr ⟨List.mem_append_left _ (List.mem_map.mpr ⟨_, (List.mem_append_right _ (List.mem_append_right _ (List.mem_append_right _ (List.mem_append_left _ (List.mem_of_getElem? (i := 2) rfl))))), rfl⟩), rfl⟩
theorem b_309 : (Cond.code y_NumberReader_signedDigits b_NumberReader_signedDigits 1 (some .long)) ∈ BIG := List.mem_filter.mpr ⟨List.mem_append_right _ (List.mem_append_right _ (List.mem_append_right _ (List.mem_append_left _ (List.mem_of_getElem? (i := 176) rfl)))), rfl⟩
theorem b_310 : (Cond.instanceMethod y_NumberReader_signedDigits) ∈ BIG := List.mem_filter.mpr ⟨List.mem_append_right _ (List.mem_append_right _ (List.mem_append_right _ (List.mem_append_left _ (List.mem_of_getElem? (i := 175) rfl)))), rfl⟩
theorem b_311 : (Cond.selects R_NumberReader y_NumberReader_signedDigits y_NumberReader_signedDigits) ∈ BIG := List.mem_filter.mpr ⟨List.mem_append_left _ (List.mem_map.mpr ⟨_, (List.mem_append_right _ (List.mem_append_right _ (List.mem_append_right _ (List.mem_append_left _ (List.mem_of_getElem? (i := 12) rfl))))), rfl⟩), rfl⟩
theorem b_312 : (Cond.fieldLink R_Deci 65 R_Deci "readValue" "J") ∈ BIG := List.mem_filter.mpr ⟨List.mem_append_right _ (List.mem_append_right _ (List.mem_append_left _ (List.mem_of_getElem? (i := 41) rfl))), rfl⟩
theorem b_313 : (Cond.code y_NumberReader_places b_NumberReader_places 1 (some .int)) ∈ BIG := List.mem_filter.mpr ⟨List.mem_append_right _ (List.mem_append_right _ (List.mem_append_right _ (List.mem_append_left _ (List.mem_of_getElem? (i := 180) rfl)))), rfl⟩
theorem b_314 : (Cond.instanceMethod y_NumberReader_places) ∈ BIG := List.mem_filter.mpr ⟨List.mem_append_right _ (List.mem_append_right _ (List.mem_append_right _ (List.mem_append_left _ (List.mem_of_getElem? (i := 179) rfl)))), rfl⟩
theorem b_315 : (Cond.selects R_NumberReader y_NumberReader_places y_NumberReader_places) ∈ BIG := List.mem_filter.mpr ⟨List.mem_append_left _ (List.mem_map.mpr ⟨_, (List.mem_append_right _ (List.mem_append_right _ (List.mem_append_right _ (List.mem_append_left _ (List.mem_of_getElem? (i := 13) rfl))))), rfl⟩), rfl⟩
theorem b_316 : (Cond.fieldLink R_Deci 69 R_Deci "readScale" "I") ∈ BIG := List.mem_filter.mpr ⟨List.mem_append_right _ (List.mem_append_right _ (List.mem_append_left _ (List.mem_of_getElem? (i := 42) rfl))), rfl⟩
theorem b_317 : (Cond.fieldLink R_Model 36 R_Model "size" "I") ∈ BIG := List.mem_filter.mpr ⟨List.mem_append_right _ (List.mem_append_right _ (List.mem_append_right _ (List.mem_append_left _ (List.mem_of_getElem? (i := 196) rfl)))), rfl⟩
theorem b_318 : (Cond.fieldLink R_Model 7 R_Model "text" "[C") ∈ BIG := List.mem_filter.mpr ⟨List.mem_append_right _ (List.mem_append_right _ (List.mem_append_right _ (List.mem_append_left _ (List.mem_of_getElem? (i := 195) rfl)))), rfl⟩
theorem b_319 : (Cond.fieldLink R_Model 39 R_Model "end" "I") ∈ BIG := List.mem_filter.mpr ⟨List.mem_append_right _ (List.mem_append_right _ (List.mem_append_right _ (List.mem_append_left _ (List.mem_of_getElem? (i := 198) rfl)))), rfl⟩
theorem b_320 : (Cond.fieldLink R_Model 13 R_Model "written" "[C") ∈ BIG := List.mem_filter.mpr ⟨List.mem_append_right _ (List.mem_append_right _ (List.mem_append_right _ (List.mem_append_left _ (List.mem_of_getElem? (i := 197) rfl)))), rfl⟩
theorem b_321 : (Cond.fieldLink R_Model 42 R_Model "keeping" "Z") ∈ BIG := List.mem_filter.mpr ⟨List.mem_append_right _ (List.mem_append_right _ (List.mem_append_right _ (List.mem_append_left _ (List.mem_of_getElem? (i := 207) rfl)))), rfl⟩
theorem b_322 : (Cond.fieldLink R_Model 20 R_Model "element" "[I") ∈ BIG := List.mem_filter.mpr ⟨List.mem_append_right _ (List.mem_append_right _ (List.mem_append_right _ (List.mem_append_left _ (List.mem_of_getElem? (i := 201) rfl)))), rfl⟩
theorem b_323 : (Cond.fieldLink R_Model 24 R_Model "elements" "[I") ∈ BIG := List.mem_filter.mpr ⟨List.mem_append_right _ (List.mem_append_right _ (List.mem_append_right _ (List.mem_append_left _ (List.mem_of_getElem? (i := 202) rfl)))), rfl⟩
theorem b_324 : (Cond.fieldLink R_Model 46 R_Model "open" "Z") ∈ BIG := List.mem_filter.mpr ⟨List.mem_append_right _ (List.mem_append_right _ (List.mem_append_right _ (List.mem_append_left _ (List.mem_of_getElem? (i := 206) rfl)))), rfl⟩
theorem b_325 : (Cond.fieldLink R_Model 49 R_Model "at" "I") ∈ BIG := List.mem_filter.mpr ⟨List.mem_append_right _ (List.mem_append_right _ (List.mem_append_right _ (List.mem_append_left _ (List.mem_of_getElem? (i := 204) rfl)))), rfl⟩
theorem b_326 : (Cond.code y_Model_is b_Model_is 3 (some .boolean)) ∈ BIG := List.mem_filter.mpr ⟨List.mem_append_right _ (List.mem_append_right _ (List.mem_append_right _ (List.mem_append_right _ (List.mem_of_getElem? (i := 64) rfl)))), rfl⟩
theorem b_327 : (Cond.initialized R_Model) ∈ BIG := List.mem_filter.mpr ⟨List.mem_append_right _ (List.mem_append_left _ (List.mem_of_getElem? (i := 13) rfl)), rfl⟩
theorem b_328 : (Cond.instanceMethod y_Model_is) ∈ BIG := List.mem_filter.mpr ⟨List.mem_append_right _ (List.mem_append_right _ (List.mem_append_right _ (List.mem_append_right _ (List.mem_of_getElem? (i := 63) rfl)))), rfl⟩
theorem b_329 : (Cond.selects R_Model y_Model_is y_Model_is) ∈ BIG := List.mem_filter.mpr ⟨List.mem_append_left _ (List.mem_map.mpr ⟨_, (List.mem_append_right _ (List.mem_append_right _ (List.mem_append_right _ (List.mem_append_right _ (List.mem_append_left _ (List.mem_of_getElem? (i := 1) rfl)))))), rfl⟩), rfl⟩
theorem b_330 : (Cond.methodLink R_Model 52 y_Model_is) ∈ BIG := List.mem_filter.mpr ⟨List.mem_append_right _ (List.mem_append_right _ (List.mem_append_right _ (List.mem_append_right _ (List.mem_of_getElem? (i := 61) rfl)))), rfl⟩
theorem b_331 : (Cond.code y_Model_keep b_Model_keep 3 none) ∈ BIG := List.mem_filter.mpr ⟨List.mem_append_right _ (List.mem_append_right _ (List.mem_append_right _ (List.mem_append_right _ (List.mem_of_getElem? (i := 68) rfl)))), rfl⟩
theorem b_332 : (Cond.instanceMethod y_Model_keep) ∈ BIG := List.mem_filter.mpr ⟨List.mem_append_right _ (List.mem_append_right _ (List.mem_append_right _ (List.mem_append_right _ (List.mem_of_getElem? (i := 67) rfl)))), rfl⟩
theorem b_333 : (Cond.selects R_Model y_Model_keep y_Model_keep) ∈ BIG := List.mem_filter.mpr ⟨List.mem_append_left _ (List.mem_map.mpr ⟨_, (List.mem_append_right _ (List.mem_append_right _ (List.mem_append_right _ (List.mem_append_right _ (List.mem_append_left _ (List.mem_of_getElem? (i := 2) rfl)))))), rfl⟩), rfl⟩
theorem b_334 : (Cond.methodLink R_Model 56 y_Model_keep) ∈ BIG := List.mem_filter.mpr ⟨List.mem_append_right _ (List.mem_append_right _ (List.mem_append_right _ (List.mem_append_right _ (List.mem_of_getElem? (i := 65) rfl)))), rfl⟩
theorem b_335 : (Cond.code y_Model_special b_Model_special 1 (some .boolean)) ∈ BIG := List.mem_filter.mpr ⟨List.mem_append_right _ (List.mem_append_right _ (List.mem_append_right _ (List.mem_append_right _ (List.mem_of_getElem? (i := 71) rfl)))), rfl⟩
theorem b_336 : (Cond.static y_Model_special) ∈ BIG := List.mem_filter.mpr ⟨List.mem_append_right _ (List.mem_append_right _ (List.mem_append_right _ (List.mem_append_right _ (List.mem_of_getElem? (i := 70) rfl)))), rfl⟩
theorem b_337 : (Cond.methodLink R_Model 60 y_Model_special) ∈ BIG := List.mem_filter.mpr ⟨List.mem_append_right _ (List.mem_append_right _ (List.mem_append_right _ (List.mem_append_right _ (List.mem_of_getElem? (i := 69) rfl)))), rfl⟩
theorem b_338 : (Cond.fieldLink R_Model 27 R_Model "kept" "[I") ∈ BIG := List.mem_filter.mpr ⟨List.mem_append_right _ (List.mem_append_right _ (List.mem_append_right _ (List.mem_append_left _ (List.mem_of_getElem? (i := 203) rfl)))), rfl⟩
theorem b_339 : (Cond.fieldLink R_Model 64 R_Model "wrong" "I") ∈ BIG := List.mem_filter.mpr ⟨List.mem_append_right _ (List.mem_append_right _ (List.mem_append_right _ (List.mem_append_left _ (List.mem_of_getElem? (i := 205) rfl)))), rfl⟩
theorem b_340 : (Cond.code y_Model_whole b_Model_whole 7 (some .int)) ∈ BIG := List.mem_filter.mpr ⟨List.mem_append_right _ (List.mem_append_right _ (List.mem_append_right _ (List.mem_append_right _ (List.mem_of_getElem? (i := 79) rfl)))), rfl⟩
theorem b_341 : (Cond.instanceMethod y_Model_whole) ∈ BIG := List.mem_filter.mpr ⟨List.mem_append_right _ (List.mem_append_right _ (List.mem_append_right _ (List.mem_append_right _ (List.mem_of_getElem? (i := 78) rfl)))), rfl⟩
theorem b_342 : (Cond.selects R_Model y_Model_whole y_Model_whole) ∈ BIG := List.mem_filter.mpr ⟨List.mem_append_left _ (List.mem_map.mpr ⟨_, (List.mem_append_right _ (List.mem_append_right _ (List.mem_append_right _ (List.mem_append_right _ (List.mem_append_left _ (List.mem_of_getElem? (i := 4) rfl)))))), rfl⟩), rfl⟩
theorem b_343 : (Cond.methodLink R_Model 67 y_Model_whole) ∈ BIG := List.mem_filter.mpr ⟨List.mem_append_right _ (List.mem_append_right _ (List.mem_append_right _ (List.mem_append_right _ (List.mem_of_getElem? (i := 76) rfl)))), rfl⟩
theorem b_344 : (Cond.code y_Model_exponent b_Model_exponent 3 none) ∈ BIG := List.mem_filter.mpr ⟨List.mem_append_right _ (List.mem_append_right _ (List.mem_append_right _ (List.mem_append_right _ (List.mem_of_getElem? (i := 87) rfl)))), rfl⟩
theorem b_345 : (Cond.instanceMethod y_Model_exponent) ∈ BIG := List.mem_filter.mpr ⟨List.mem_append_right _ (List.mem_append_right _ (List.mem_append_right _ (List.mem_append_right _ (List.mem_of_getElem? (i := 86) rfl)))), rfl⟩
theorem b_346 : (Cond.selects R_Model y_Model_exponent y_Model_exponent) ∈ BIG := List.mem_filter.mpr ⟨List.mem_append_left _ (List.mem_map.mpr ⟨_, (List.mem_append_right _ (List.mem_append_right _ (List.mem_append_right _ (List.mem_append_right _ (List.mem_append_left _ (List.mem_of_getElem? (i := 6) rfl)))))), rfl⟩), rfl⟩
theorem b_347 : (Cond.methodLink R_Model 75 y_Model_exponent) ∈ BIG := List.mem_filter.mpr ⟨List.mem_append_right _ (List.mem_append_right _ (List.mem_append_right _ (List.mem_append_right _ (List.mem_of_getElem? (i := 84) rfl)))), rfl⟩
theorem b_348 : (Cond.code y_Model_fraction b_Model_fraction 4 none) ∈ BIG := List.mem_filter.mpr ⟨List.mem_append_right _ (List.mem_append_right _ (List.mem_append_right _ (List.mem_append_right _ (List.mem_of_getElem? (i := 83) rfl)))), rfl⟩
theorem b_349 : (Cond.instanceMethod y_Model_fraction) ∈ BIG := List.mem_filter.mpr ⟨List.mem_append_right _ (List.mem_append_right _ (List.mem_append_right _ (List.mem_append_right _ (List.mem_of_getElem? (i := 82) rfl)))), rfl⟩
theorem b_350 : (Cond.selects R_Model y_Model_fraction y_Model_fraction) ∈ BIG := List.mem_filter.mpr ⟨List.mem_append_left _ (List.mem_map.mpr ⟨_, (List.mem_append_right _ (List.mem_append_right _ (List.mem_append_right _ (List.mem_append_right _ (List.mem_append_left _ (List.mem_of_getElem? (i := 5) rfl)))))), rfl⟩), rfl⟩
theorem b_351 : (Cond.methodLink R_Model 71 y_Model_fraction) ∈ BIG := List.mem_filter.mpr ⟨List.mem_append_right _ (List.mem_append_right _ (List.mem_append_right _ (List.mem_append_right _ (List.mem_of_getElem? (i := 80) rfl)))), rfl⟩
theorem b_352 : (Cond.code y_Model_affix b_Model_affix 3 none) ∈ BIG := List.mem_filter.mpr ⟨List.mem_append_right _ (List.mem_append_right _ (List.mem_append_right _ (List.mem_append_right _ (List.mem_of_getElem? (i := 60) rfl)))), rfl⟩
theorem b_353 : (Cond.instanceMethod y_Model_affix) ∈ BIG := List.mem_filter.mpr ⟨List.mem_append_right _ (List.mem_append_right _ (List.mem_append_right _ (List.mem_append_right _ (List.mem_of_getElem? (i := 59) rfl)))), rfl⟩
theorem b_354 : (Cond.selects R_Model y_Model_affix y_Model_affix) ∈ BIG := List.mem_filter.mpr ⟨List.mem_append_left _ (List.mem_map.mpr ⟨_, (List.mem_append_right _ (List.mem_append_right _ (List.mem_append_right _ (List.mem_append_right _ (List.mem_append_left _ (List.mem_of_getElem? (i := 0) rfl)))))), rfl⟩), rfl⟩
theorem b_355 : (Cond.methodLink R_Model 78 y_Model_affix) ∈ BIG := List.mem_filter.mpr ⟨List.mem_append_right _ (List.mem_append_right _ (List.mem_append_right _ (List.mem_append_right _ (List.mem_of_getElem? (i := 57) rfl)))), rfl⟩
theorem b_356 : (Cond.code y_Model_number b_Model_number 3 none) ∈ BIG := List.mem_filter.mpr ⟨List.mem_append_right _ (List.mem_append_right _ (List.mem_append_right _ (List.mem_append_right _ (List.mem_of_getElem? (i := 75) rfl)))), rfl⟩
theorem b_357 : (Cond.instanceMethod y_Model_number) ∈ BIG := List.mem_filter.mpr ⟨List.mem_append_right _ (List.mem_append_right _ (List.mem_append_right _ (List.mem_append_right _ (List.mem_of_getElem? (i := 74) rfl)))), rfl⟩
theorem b_358 : (Cond.selects R_Model y_Model_number y_Model_number) ∈ BIG := List.mem_filter.mpr ⟨List.mem_append_left _ (List.mem_map.mpr ⟨_, (List.mem_append_right _ (List.mem_append_right _ (List.mem_append_right _ (List.mem_append_right _ (List.mem_append_left _ (List.mem_of_getElem? (i := 3) rfl)))))), rfl⟩), rfl⟩
theorem b_359 : (Cond.methodLink R_Model 82 y_Model_number) ∈ BIG := List.mem_filter.mpr ⟨List.mem_append_right _ (List.mem_append_right _ (List.mem_append_right _ (List.mem_append_right _ (List.mem_of_getElem? (i := 72) rfl)))), rfl⟩
theorem b_360 : (Cond.code y_Model_part b_Model_part 2 none) ∈ BIG := List.mem_filter.mpr ⟨List.mem_append_right _ (List.mem_append_right _ (List.mem_append_right _ (List.mem_append_right _ (List.mem_of_getElem? (i := 56) rfl)))), rfl⟩
theorem b_361 : (Cond.instanceMethod y_Model_part) ∈ BIG := List.mem_filter.mpr ⟨List.mem_append_right _ (List.mem_append_right _ (List.mem_append_right _ (List.mem_append_right _ (List.mem_of_getElem? (i := 55) rfl)))), rfl⟩
theorem b_362 : (Cond.selects R_Model y_Model_part y_Model_part) ∈ BIG := List.mem_filter.mpr ⟨List.mem_append_left _ (List.mem_map.mpr ⟨_, (List.mem_append_right _ (List.mem_append_right _ (List.mem_append_right _ (List.mem_append_left _ (List.mem_of_getElem? (i := 15) rfl))))), rfl⟩), rfl⟩
theorem b_363 : (Cond.methodLink R_Model 85 y_Model_part) ∈ BIG := List.mem_filter.mpr ⟨List.mem_append_right _ (List.mem_append_right _ (List.mem_append_right _ (List.mem_append_right _ (List.mem_of_getElem? (i := 53) rfl)))), rfl⟩
theorem b_364 : (Cond.code y_Model_go b_Model_go 3 none) ∈ BIG := List.mem_filter.mpr ⟨List.mem_append_right _ (List.mem_append_right _ (List.mem_append_right _ (List.mem_append_right _ (List.mem_of_getElem? (i := 52) rfl)))), rfl⟩
theorem b_365 : (Cond.instanceMethod y_Model_go) ∈ BIG := List.mem_filter.mpr ⟨List.mem_append_right _ (List.mem_append_right _ (List.mem_append_right _ (List.mem_append_right _ (List.mem_of_getElem? (i := 51) rfl)))), rfl⟩
theorem b_366 : (Cond.selects R_Model y_Model_go y_Model_go) ∈ BIG := List.mem_filter.mpr ⟨List.mem_append_left _ (List.mem_map.mpr ⟨_, (List.mem_append_right _ (List.mem_append_right _ (List.mem_append_right _ (List.mem_append_left _ (List.mem_of_getElem? (i := 14) rfl))))), rfl⟩), rfl⟩
theorem b_367 : (Cond.methodLink R_Model 88 y_Model_go) ∈ BIG := List.mem_filter.mpr ⟨List.mem_append_right _ (List.mem_append_right _ (List.mem_append_right _ (List.mem_append_right _ (List.mem_of_getElem? (i := 49) rfl)))), rfl⟩
theorem b_368 : (Cond.fieldLink R_Model 91 R_Model "there" "Z") ∈ BIG := List.mem_filter.mpr ⟨List.mem_append_right _ (List.mem_append_right _ (List.mem_append_right _ (List.mem_append_left _ (List.mem_of_getElem? (i := 200) rfl)))), rfl⟩
theorem b_369 : (Cond.code y_Model_hasPercent b_Model_hasPercent 4 (some .boolean)) ∈ BIG := List.mem_filter.mpr ⟨List.mem_append_right _ (List.mem_append_right _ (List.mem_append_right _ (List.mem_append_right _ (List.mem_of_getElem? (i := 91) rfl)))), rfl⟩
theorem b_370 : (Cond.instanceMethod y_Model_hasPercent) ∈ BIG := List.mem_filter.mpr ⟨List.mem_append_right _ (List.mem_append_right _ (List.mem_append_right _ (List.mem_append_right _ (List.mem_of_getElem? (i := 90) rfl)))), rfl⟩
theorem b_371 : (Cond.selects R_Model y_Model_hasPercent y_Model_hasPercent) ∈ BIG := List.mem_filter.mpr ⟨List.mem_append_left _ (List.mem_map.mpr ⟨_, (List.mem_append_right _ (List.mem_append_right _ (List.mem_append_right _ (List.mem_append_right _ (List.mem_append_left _ (List.mem_of_getElem? (i := 7) rfl)))))), rfl⟩), rfl⟩
theorem b_372 : (Cond.methodLink R_Model 94 y_Model_hasPercent) ∈ BIG := List.mem_filter.mpr ⟨List.mem_append_right _ (List.mem_append_right _ (List.mem_append_right _ (List.mem_append_right _ (List.mem_of_getElem? (i := 88) rfl)))), rfl⟩
theorem b_373 : (Cond.fieldLink R_Model 16 R_Model "how" "I") ∈ BIG := List.mem_filter.mpr ⟨List.mem_append_right _ (List.mem_append_right _ (List.mem_append_right _ (List.mem_append_left _ (List.mem_of_getElem? (i := 199) rfl)))), rfl⟩
theorem b_374 : (Cond.code y_Model_borrowed b_Model_borrowed 2 (some .boolean)) ∈ BIG := List.mem_filter.mpr ⟨List.mem_append_right _ (List.mem_append_right _ (List.mem_append_right _ (List.mem_append_right _ (List.mem_of_getElem? (i := 135) rfl)))), rfl⟩
theorem b_375 : (Cond.instanceMethod y_Model_borrowed) ∈ BIG := List.mem_filter.mpr ⟨List.mem_append_right _ (List.mem_append_right _ (List.mem_append_right _ (List.mem_append_right _ (List.mem_of_getElem? (i := 134) rfl)))), rfl⟩
theorem b_376 : (Cond.selects R_Model y_Model_borrowed y_Model_borrowed) ∈ BIG := List.mem_filter.mpr ⟨List.mem_append_left _ (List.mem_map.mpr ⟨_, (List.mem_append_right _ (List.mem_append_right _ (List.mem_append_right _ (List.mem_append_right _ (List.mem_append_left _ (List.mem_of_getElem? (i := 14) rfl)))))), rfl⟩), rfl⟩
theorem b_377 : (Cond.methodLink R_Model 97 y_Model_borrowed) ∈ BIG := List.mem_filter.mpr ⟨List.mem_append_right _ (List.mem_append_right _ (List.mem_append_right _ (List.mem_append_right _ (List.mem_of_getElem? (i := 132) rfl)))), rfl⟩
theorem b_378 : (Cond.code y_Model_shownLength b_Model_shownLength 3 (some .int)) ∈ BIG := List.mem_filter.mpr ⟨List.mem_append_right _ (List.mem_append_right _ (List.mem_append_right _ (List.mem_append_right _ (List.mem_of_getElem? (i := 131) rfl)))), rfl⟩
theorem b_379 : (Cond.instanceMethod y_Model_shownLength) ∈ BIG := List.mem_filter.mpr ⟨List.mem_append_right _ (List.mem_append_right _ (List.mem_append_right _ (List.mem_append_right _ (List.mem_of_getElem? (i := 130) rfl)))), rfl⟩
theorem b_380 : (Cond.selects R_Model y_Model_shownLength y_Model_shownLength) ∈ BIG := List.mem_filter.mpr ⟨List.mem_append_left _ (List.mem_map.mpr ⟨_, (List.mem_append_right _ (List.mem_append_right _ (List.mem_append_right _ (List.mem_append_right _ (List.mem_append_left _ (List.mem_of_getElem? (i := 13) rfl)))))), rfl⟩), rfl⟩
theorem b_381 : (Cond.methodLink R_Model 101 y_Model_shownLength) ∈ BIG := List.mem_filter.mpr ⟨List.mem_append_right _ (List.mem_append_right _ (List.mem_append_right _ (List.mem_append_right _ (List.mem_of_getElem? (i := 128) rfl)))), rfl⟩
theorem b_382 : (Cond.code y_Model_shown b_Model_shown 7 (some .int)) ∈ BIG := List.mem_filter.mpr ⟨List.mem_append_right _ (List.mem_append_right _ (List.mem_append_right _ (List.mem_append_right _ (List.mem_of_getElem? (i := 139) rfl)))), rfl⟩
theorem b_383 : (Cond.instanceMethod y_Model_shown) ∈ BIG := List.mem_filter.mpr ⟨List.mem_append_right _ (List.mem_append_right _ (List.mem_append_right _ (List.mem_append_right _ (List.mem_of_getElem? (i := 138) rfl)))), rfl⟩
theorem b_384 : (Cond.selects R_Model y_Model_shown y_Model_shown) ∈ BIG := List.mem_filter.mpr ⟨List.mem_append_left _ (List.mem_map.mpr ⟨_, (List.mem_append_right _ (List.mem_append_right _ (List.mem_append_right _ (List.mem_append_right _ (List.mem_append_left _ (List.mem_of_getElem? (i := 15) rfl)))))), rfl⟩), rfl⟩
theorem b_385 : (Cond.methodLink R_Model 105 y_Model_shown) ∈ BIG := List.mem_filter.mpr ⟨List.mem_append_right _ (List.mem_append_right _ (List.mem_append_right _ (List.mem_append_right _ (List.mem_of_getElem? (i := 136) rfl)))), rfl⟩
theorem b_386 : (Cond.code y_Model_write b_Model_write 2 none) ∈ BIG := List.mem_filter.mpr ⟨List.mem_append_right _ (List.mem_append_right _ (List.mem_append_right _ (List.mem_append_right _ (List.mem_of_getElem? (i := 143) rfl)))), rfl⟩
theorem b_387 : (Cond.instanceMethod y_Model_write) ∈ BIG := List.mem_filter.mpr ⟨List.mem_append_right _ (List.mem_append_right _ (List.mem_append_right _ (List.mem_append_right _ (List.mem_of_getElem? (i := 142) rfl)))), rfl⟩
theorem b_388 : (Cond.selects R_Model y_Model_write y_Model_write) ∈ BIG := List.mem_filter.mpr ⟨List.mem_append_left _ (List.mem_map.mpr ⟨_, (List.mem_append_right _ (List.mem_append_right _ (List.mem_append_right _ (List.mem_append_right _ (List.mem_append_right _ (List.mem_of_getElem? (i := 0) rfl)))))), rfl⟩), rfl⟩
theorem b_389 : (Cond.methodLink R_Model 109 y_Model_write) ∈ BIG := List.mem_filter.mpr ⟨List.mem_append_right _ (List.mem_append_right _ (List.mem_append_right _ (List.mem_append_right _ (List.mem_of_getElem? (i := 140) rfl)))), rfl⟩
theorem b_390 : (Cond.fieldLink R_Model 112 R_Model "digits" "I") ∈ BIG := List.mem_filter.mpr ⟨List.mem_append_right _ (List.mem_append_right _ (List.mem_append_right _ (List.mem_append_left _ (List.mem_of_getElem? (i := 209) rfl)))), rfl⟩
theorem b_391 : (Cond.constantLong R_Model 115 100000000000000000) ∈ BIG := List.mem_filter.mpr ⟨List.mem_append_right _ (List.mem_append_right _ (List.mem_append_right _ (List.mem_append_right _ (List.mem_of_getElem? (i := 110) rfl)))), rfl⟩
theorem b_392 : (Cond.constantLong R_Model 117 10) ∈ BIG := List.mem_filter.mpr ⟨List.mem_append_right _ (List.mem_append_right _ (List.mem_append_right _ (List.mem_append_right _ (List.mem_of_getElem? (i := 111) rfl)))), rfl⟩
theorem b_393 : (Cond.fieldLink R_Model 30 R_Model "digit" "[I") ∈ BIG := List.mem_filter.mpr ⟨List.mem_append_right _ (List.mem_append_right _ (List.mem_append_right _ (List.mem_append_left _ (List.mem_of_getElem? (i := 208) rfl)))), rfl⟩
theorem b_394 : (Cond.fieldLink R_Model 119 R_Model "point" "I") ∈ BIG := List.mem_filter.mpr ⟨List.mem_append_right _ (List.mem_append_right _ (List.mem_append_right _ (List.mem_append_left _ (List.mem_of_getElem? (i := 210) rfl)))), rfl⟩
theorem b_395 : (Cond.code y_Model_rest b_Model_rest 5 (some .int)) ∈ BIG := List.mem_filter.mpr ⟨List.mem_append_right _ (List.mem_append_right _ (List.mem_append_right _ (List.mem_append_right _ (List.mem_of_getElem? (i := 119) rfl)))), rfl⟩
theorem b_396 : (Cond.instanceMethod y_Model_rest) ∈ BIG := List.mem_filter.mpr ⟨List.mem_append_right _ (List.mem_append_right _ (List.mem_append_right _ (List.mem_append_right _ (List.mem_of_getElem? (i := 118) rfl)))), rfl⟩
theorem b_397 : (Cond.selects R_Model y_Model_rest y_Model_rest) ∈ BIG := List.mem_filter.mpr ⟨List.mem_append_left _ (List.mem_map.mpr ⟨_, (List.mem_append_right _ (List.mem_append_right _ (List.mem_append_right _ (List.mem_append_right _ (List.mem_append_left _ (List.mem_of_getElem? (i := 10) rfl)))))), rfl⟩), rfl⟩
theorem b_398 : (Cond.methodLink R_Model 122 y_Model_rest) ∈ BIG := List.mem_filter.mpr ⟨List.mem_append_right _ (List.mem_append_right _ (List.mem_append_right _ (List.mem_append_right _ (List.mem_of_getElem? (i := 116) rfl)))), rfl⟩
theorem b_399 : (Cond.code y_Model_away b_Model_away 4 (some .boolean)) ∈ BIG := List.mem_filter.mpr ⟨List.mem_append_right _ (List.mem_append_right _ (List.mem_append_right _ (List.mem_append_right _ (List.mem_of_getElem? (i := 123) rfl)))), rfl⟩
theorem b_400 : (Cond.instanceMethod y_Model_away) ∈ BIG := List.mem_filter.mpr ⟨List.mem_append_right _ (List.mem_append_right _ (List.mem_append_right _ (List.mem_append_right _ (List.mem_of_getElem? (i := 122) rfl)))), rfl⟩
theorem b_401 : (Cond.selects R_Model y_Model_away y_Model_away) ∈ BIG := List.mem_filter.mpr ⟨List.mem_append_left _ (List.mem_map.mpr ⟨_, (List.mem_append_right _ (List.mem_append_right _ (List.mem_append_right _ (List.mem_append_right _ (List.mem_append_left _ (List.mem_of_getElem? (i := 11) rfl)))))), rfl⟩), rfl⟩
theorem b_402 : (Cond.methodLink R_Model 126 y_Model_away) ∈ BIG := List.mem_filter.mpr ⟨List.mem_append_right _ (List.mem_append_right _ (List.mem_append_right _ (List.mem_append_right _ (List.mem_of_getElem? (i := 120) rfl)))), rfl⟩
theorem b_403 : (Cond.fieldLink R_Model 33 R_Model "bounds" "[I") ∈ BIG := List.mem_filter.mpr ⟨List.mem_append_right _ (List.mem_append_right _ (List.mem_append_right _ (List.mem_append_left _ (List.mem_of_getElem? (i := 212) rfl)))), rfl⟩
theorem b_404 : (Cond.code y_Model_placed b_Model_placed 3 (some .int)) ∈ BIG := List.mem_filter.mpr ⟨List.mem_append_right _ (List.mem_append_right _ (List.mem_append_right _ (List.mem_append_right _ (List.mem_of_getElem? (i := 151) rfl)))), rfl⟩
theorem b_405 : (Cond.instanceMethod y_Model_placed) ∈ BIG := List.mem_filter.mpr ⟨List.mem_append_right _ (List.mem_append_right _ (List.mem_append_right _ (List.mem_append_right _ (List.mem_of_getElem? (i := 150) rfl)))), rfl⟩
theorem b_406 : (Cond.selects R_Model y_Model_placed y_Model_placed) ∈ BIG := List.mem_filter.mpr ⟨List.mem_append_left _ (List.mem_map.mpr ⟨_, (List.mem_append_right _ (List.mem_append_right _ (List.mem_append_right _ (List.mem_append_right _ (List.mem_append_right _ (List.mem_of_getElem? (i := 2) rfl)))))), rfl⟩), rfl⟩
theorem b_407 : (Cond.methodLink R_Model 130 y_Model_placed) ∈ BIG := List.mem_filter.mpr ⟨List.mem_append_right _ (List.mem_append_right _ (List.mem_append_right _ (List.mem_append_right _ (List.mem_of_getElem? (i := 148) rfl)))), rfl⟩
theorem b_408 : (Cond.constantLong R_Model 133 (-999999999999999)) ∈ BIG := List.mem_filter.mpr ⟨List.mem_append_right _ (List.mem_append_right _ (List.mem_append_right _ (List.mem_append_right _ (List.mem_of_getElem? (i := 104) rfl)))), rfl⟩
theorem b_409 : (Cond.constantLong R_Model 135 999999999999999) ∈ BIG := List.mem_filter.mpr ⟨List.mem_append_right _ (List.mem_append_right _ (List.mem_append_right _ (List.mem_append_right _ (List.mem_of_getElem? (i := 105) rfl)))), rfl⟩
theorem b_410 : (Cond.code y_Model_lay b_Model_lay 6 none) ∈ BIG := List.mem_filter.mpr ⟨List.mem_append_right _ (List.mem_append_right _ (List.mem_append_right _ (List.mem_append_right _ (List.mem_of_getElem? (i := 109) rfl)))), rfl⟩
theorem b_411 : (Cond.instanceMethod y_Model_lay) ∈ BIG := List.mem_filter.mpr ⟨List.mem_append_right _ (List.mem_append_right _ (List.mem_append_right _ (List.mem_append_right _ (List.mem_of_getElem? (i := 108) rfl)))), rfl⟩
theorem b_412 : (Cond.selects R_Model y_Model_lay y_Model_lay) ∈ BIG := List.mem_filter.mpr ⟨List.mem_append_left _ (List.mem_map.mpr ⟨_, (List.mem_append_right _ (List.mem_append_right _ (List.mem_append_right _ (List.mem_append_right _ (List.mem_append_left _ (List.mem_of_getElem? (i := 8) rfl)))))), rfl⟩), rfl⟩
theorem b_413 : (Cond.methodLink R_Model 137 y_Model_lay) ∈ BIG := List.mem_filter.mpr ⟨List.mem_append_right _ (List.mem_append_right _ (List.mem_append_right _ (List.mem_append_right _ (List.mem_of_getElem? (i := 106) rfl)))), rfl⟩
theorem b_414 : (Cond.code y_Model_round b_Model_round 9 (some .boolean)) ∈ BIG := List.mem_filter.mpr ⟨List.mem_append_right _ (List.mem_append_right _ (List.mem_append_right _ (List.mem_append_right _ (List.mem_of_getElem? (i := 115) rfl)))), rfl⟩
theorem b_415 : (Cond.instanceMethod y_Model_round) ∈ BIG := List.mem_filter.mpr ⟨List.mem_append_right _ (List.mem_append_right _ (List.mem_append_right _ (List.mem_append_right _ (List.mem_of_getElem? (i := 114) rfl)))), rfl⟩
theorem b_416 : (Cond.selects R_Model y_Model_round y_Model_round) ∈ BIG := List.mem_filter.mpr ⟨List.mem_append_left _ (List.mem_map.mpr ⟨_, (List.mem_append_right _ (List.mem_append_right _ (List.mem_append_right _ (List.mem_append_right _ (List.mem_append_left _ (List.mem_of_getElem? (i := 9) rfl)))))), rfl⟩), rfl⟩
theorem b_417 : (Cond.methodLink R_Model 141 y_Model_round) ∈ BIG := List.mem_filter.mpr ⟨List.mem_append_right _ (List.mem_append_right _ (List.mem_append_right _ (List.mem_append_right _ (List.mem_of_getElem? (i := 112) rfl)))), rfl⟩
theorem b_418 : (Cond.fieldLink R_Model 145 R_Model "formatted" "Z") ∈ BIG := List.mem_filter.mpr ⟨List.mem_append_right _ (List.mem_append_right _ (List.mem_append_right _ (List.mem_append_left _ (List.mem_of_getElem? (i := 211) rfl)))), rfl⟩
theorem b_419 : (Cond.code y_Model_writeAffix b_Model_writeAffix 6 none) ∈ BIG := List.mem_filter.mpr ⟨List.mem_append_right _ (List.mem_append_right _ (List.mem_append_right _ (List.mem_append_right _ (List.mem_of_getElem? (i := 127) rfl)))), rfl⟩
theorem b_420 : (Cond.instanceMethod y_Model_writeAffix) ∈ BIG := List.mem_filter.mpr ⟨List.mem_append_right _ (List.mem_append_right _ (List.mem_append_right _ (List.mem_append_right _ (List.mem_of_getElem? (i := 126) rfl)))), rfl⟩
theorem b_421 : (Cond.selects R_Model y_Model_writeAffix y_Model_writeAffix) ∈ BIG := List.mem_filter.mpr ⟨List.mem_append_left _ (List.mem_map.mpr ⟨_, (List.mem_append_right _ (List.mem_append_right _ (List.mem_append_right _ (List.mem_append_right _ (List.mem_append_left _ (List.mem_of_getElem? (i := 12) rfl)))))), rfl⟩), rfl⟩
theorem b_422 : (Cond.methodLink R_Model 148 y_Model_writeAffix) ∈ BIG := List.mem_filter.mpr ⟨List.mem_append_right _ (List.mem_append_right _ (List.mem_append_right _ (List.mem_append_right _ (List.mem_of_getElem? (i := 124) rfl)))), rfl⟩
theorem b_423 : (Cond.code y_Model_fractions b_Model_fractions 3 (some .int)) ∈ BIG := List.mem_filter.mpr ⟨List.mem_append_right _ (List.mem_append_right _ (List.mem_append_right _ (List.mem_append_right _ (List.mem_of_getElem? (i := 147) rfl)))), rfl⟩
theorem b_424 : (Cond.instanceMethod y_Model_fractions) ∈ BIG := List.mem_filter.mpr ⟨List.mem_append_right _ (List.mem_append_right _ (List.mem_append_right _ (List.mem_append_right _ (List.mem_of_getElem? (i := 146) rfl)))), rfl⟩
theorem b_425 : (Cond.selects R_Model y_Model_fractions y_Model_fractions) ∈ BIG := List.mem_filter.mpr ⟨List.mem_append_left _ (List.mem_map.mpr ⟨_, (List.mem_append_right _ (List.mem_append_right _ (List.mem_append_right _ (List.mem_append_right _ (List.mem_append_right _ (List.mem_of_getElem? (i := 1) rfl)))))), rfl⟩), rfl⟩
theorem b_426 : (Cond.methodLink R_Model 152 y_Model_fractions) ∈ BIG := List.mem_filter.mpr ⟨List.mem_append_right _ (List.mem_append_right _ (List.mem_append_right _ (List.mem_append_right _ (List.mem_of_getElem? (i := 144) rfl)))), rfl⟩
theorem b_427 : (Cond.code y_Model_writeWhole b_Model_writeWhole 6 none) ∈ BIG := List.mem_filter.mpr ⟨List.mem_append_right _ (List.mem_append_right _ (List.mem_append_right _ (List.mem_append_right _ (List.mem_of_getElem? (i := 155) rfl)))), rfl⟩
theorem b_428 : (Cond.instanceMethod y_Model_writeWhole) ∈ BIG := List.mem_filter.mpr ⟨List.mem_append_right _ (List.mem_append_right _ (List.mem_append_right _ (List.mem_append_right _ (List.mem_of_getElem? (i := 154) rfl)))), rfl⟩
theorem b_429 : (Cond.selects R_Model y_Model_writeWhole y_Model_writeWhole) ∈ BIG := List.mem_filter.mpr ⟨List.mem_append_left _ (List.mem_map.mpr ⟨_, (List.mem_append_right _ (List.mem_append_right _ (List.mem_append_right _ (List.mem_append_right _ (List.mem_append_right _ (List.mem_of_getElem? (i := 3) rfl)))))), rfl⟩), rfl⟩
theorem b_430 : (Cond.methodLink R_Model 156 y_Model_writeWhole) ∈ BIG := List.mem_filter.mpr ⟨List.mem_append_right _ (List.mem_append_right _ (List.mem_append_right _ (List.mem_append_right _ (List.mem_of_getElem? (i := 152) rfl)))), rfl⟩
theorem b_431 : (Cond.code y_Model_writeFraction b_Model_writeFraction 4 none) ∈ BIG := List.mem_filter.mpr ⟨List.mem_append_right _ (List.mem_append_right _ (List.mem_append_right _ (List.mem_append_right _ (List.mem_of_getElem? (i := 159) rfl)))), rfl⟩
theorem b_432 : (Cond.instanceMethod y_Model_writeFraction) ∈ BIG := List.mem_filter.mpr ⟨List.mem_append_right _ (List.mem_append_right _ (List.mem_append_right _ (List.mem_append_right _ (List.mem_of_getElem? (i := 158) rfl)))), rfl⟩
theorem b_433 : (Cond.selects R_Model y_Model_writeFraction y_Model_writeFraction) ∈ BIG := List.mem_filter.mpr ⟨List.mem_append_left _ (List.mem_map.mpr ⟨_, (List.mem_append_right _ (List.mem_append_right _ (List.mem_append_right _ (List.mem_append_right _ (List.mem_append_right _ (List.mem_of_getElem? (i := 4) rfl)))))), rfl⟩), rfl⟩
theorem b_434 : (Cond.methodLink R_Model 159 y_Model_writeFraction) ∈ BIG := List.mem_filter.mpr ⟨List.mem_append_right _ (List.mem_append_right _ (List.mem_append_right _ (List.mem_append_right _ (List.mem_of_getElem? (i := 156) rfl)))), rfl⟩
theorem b_435 : (Cond.code y_Model_writeExponent b_Model_writeExponent 3 none) ∈ BIG := List.mem_filter.mpr ⟨List.mem_append_right _ (List.mem_append_right _ (List.mem_append_right _ (List.mem_append_right _ (List.mem_of_getElem? (i := 163) rfl)))), rfl⟩
theorem b_436 : (Cond.instanceMethod y_Model_writeExponent) ∈ BIG := List.mem_filter.mpr ⟨List.mem_append_right _ (List.mem_append_right _ (List.mem_append_right _ (List.mem_append_right _ (List.mem_of_getElem? (i := 162) rfl)))), rfl⟩
theorem b_437 : (Cond.selects R_Model y_Model_writeExponent y_Model_writeExponent) ∈ BIG := List.mem_filter.mpr ⟨List.mem_append_left _ (List.mem_map.mpr ⟨_, (List.mem_append_right _ (List.mem_append_right _ (List.mem_append_right _ (List.mem_append_right _ (List.mem_append_right _ (List.mem_of_getElem? (i := 5) rfl)))))), rfl⟩), rfl⟩
theorem b_438 : (Cond.methodLink R_Model 162 y_Model_writeExponent) ∈ BIG := List.mem_filter.mpr ⟨List.mem_append_right _ (List.mem_append_right _ (List.mem_append_right _ (List.mem_append_right _ (List.mem_of_getElem? (i := 160) rfl)))), rfl⟩
theorem b_439 : (Cond.code y_Model_many b_Model_many 4 none) ∈ BIG := List.mem_filter.mpr ⟨List.mem_append_right _ (List.mem_append_right _ (List.mem_append_right _ (List.mem_append_right _ (List.mem_of_getElem? (i := 183) rfl)))), rfl⟩
theorem b_440 : (Cond.instanceMethod y_Model_many) ∈ BIG := List.mem_filter.mpr ⟨List.mem_append_right _ (List.mem_append_right _ (List.mem_append_right _ (List.mem_append_right _ (List.mem_of_getElem? (i := 182) rfl)))), rfl⟩
theorem b_441 : (Cond.selects R_Model y_Model_many y_Model_many) ∈ BIG := List.mem_filter.mpr ⟨List.mem_append_left _ (List.mem_map.mpr ⟨_, (List.mem_append_right _ (List.mem_append_right _ (List.mem_append_right _ (List.mem_append_right _ (List.mem_append_right _ (List.mem_of_getElem? (i := 8) rfl)))))), rfl⟩), rfl⟩
theorem b_442 : (Cond.methodLink R_Model 165 y_Model_many) ∈ BIG := List.mem_filter.mpr ⟨List.mem_append_right _ (List.mem_append_right _ (List.mem_append_right _ (List.mem_append_right _ (List.mem_of_getElem? (i := 180) rfl)))), rfl⟩
theorem b_443 : (Cond.code y_Model_printAffix b_Model_printAffix 6 none) ∈ BIG := List.mem_filter.mpr ⟨List.mem_append_right _ (List.mem_append_right _ (List.mem_append_right _ (List.mem_append_right _ (List.mem_of_getElem? (i := 175) rfl)))), rfl⟩
theorem b_444 : (Cond.instanceMethod y_Model_printAffix) ∈ BIG := List.mem_filter.mpr ⟨List.mem_append_right _ (List.mem_append_right _ (List.mem_append_right _ (List.mem_append_right _ (List.mem_of_getElem? (i := 174) rfl)))), rfl⟩
theorem b_445 : (Cond.selects R_Model y_Model_printAffix y_Model_printAffix) ∈ BIG := List.mem_filter.mpr ⟨List.mem_append_left _ (List.mem_map.mpr ⟨_, (List.mem_append_right _ (List.mem_append_right _ (List.mem_append_right _ (List.mem_append_right _ (List.mem_append_right _ (List.mem_of_getElem? (i := 6) rfl)))))), rfl⟩), rfl⟩
theorem b_446 : (Cond.methodLink R_Model 169 y_Model_printAffix) ∈ BIG := List.mem_filter.mpr ⟨List.mem_append_right _ (List.mem_append_right _ (List.mem_append_right _ (List.mem_append_right _ (List.mem_of_getElem? (i := 172) rfl)))), rfl⟩
theorem b_447 : (Cond.code y_Model_printNumber b_Model_printNumber 5 none) ∈ BIG := List.mem_filter.mpr ⟨List.mem_append_right _ (List.mem_append_right _ (List.mem_append_right _ (List.mem_append_right _ (List.mem_of_getElem? (i := 179) rfl)))), rfl⟩
theorem b_448 : (Cond.instanceMethod y_Model_printNumber) ∈ BIG := List.mem_filter.mpr ⟨List.mem_append_right _ (List.mem_append_right _ (List.mem_append_right _ (List.mem_append_right _ (List.mem_of_getElem? (i := 178) rfl)))), rfl⟩
theorem b_449 : (Cond.selects R_Model y_Model_printNumber y_Model_printNumber) ∈ BIG := List.mem_filter.mpr ⟨List.mem_append_left _ (List.mem_map.mpr ⟨_, (List.mem_append_right _ (List.mem_append_right _ (List.mem_append_right _ (List.mem_append_right _ (List.mem_append_right _ (List.mem_of_getElem? (i := 7) rfl)))))), rfl⟩), rfl⟩
theorem b_450 : (Cond.methodLink R_Model 172 y_Model_printNumber) ∈ BIG := List.mem_filter.mpr ⟨List.mem_append_right _ (List.mem_append_right _ (List.mem_append_right _ (List.mem_append_right _ (List.mem_of_getElem? (i := 176) rfl)))), rfl⟩
theorem b_451 : (Cond.code y_Model_like b_Model_like 7 (some .boolean)) ∈ BIG := List.mem_filter.mpr ⟨List.mem_append_right _ (List.mem_append_right _ (List.mem_append_right _ (List.mem_append_right _ (List.mem_of_getElem? (i := 187) rfl)))), rfl⟩
theorem b_452 : (Cond.instanceMethod y_Model_like) ∈ BIG := List.mem_filter.mpr ⟨List.mem_append_right _ (List.mem_append_right _ (List.mem_append_right _ (List.mem_append_right _ (List.mem_of_getElem? (i := 186) rfl)))), rfl⟩
theorem b_453 : (Cond.selects R_Model y_Model_like y_Model_like) ∈ BIG := List.mem_filter.mpr ⟨List.mem_append_left _ (List.mem_map.mpr ⟨_, (List.mem_append_right _ (List.mem_append_right _ (List.mem_append_right _ (List.mem_append_right _ (List.mem_append_right _ (List.mem_of_getElem? (i := 9) rfl)))))), rfl⟩), rfl⟩
theorem b_454 : (Cond.methodLink R_Model 175 y_Model_like) ∈ BIG := List.mem_filter.mpr ⟨List.mem_append_right _ (List.mem_append_right _ (List.mem_append_right _ (List.mem_append_right _ (List.mem_of_getElem? (i := 184) rfl)))), rfl⟩
theorem b_455 : (Cond.fieldLink R_Model 179 R_Model "large" "Z") ∈ BIG := List.mem_filter.mpr ⟨List.mem_append_right _ (List.mem_append_right _ (List.mem_append_right _ (List.mem_append_left _ (List.mem_of_getElem? (i := 217) rfl)))), rfl⟩
theorem b_456 : (Cond.fieldLink R_Model 186 R_Model "newRead" "J") ∈ BIG := List.mem_filter.mpr ⟨List.mem_append_right _ (List.mem_append_right _ (List.mem_append_right _ (List.mem_append_left _ (List.mem_of_getElem? (i := 215) rfl)))), rfl⟩
theorem b_457 : (Cond.fieldLink R_Model 190 R_Model "newScale" "I") ∈ BIG := List.mem_filter.mpr ⟨List.mem_append_right _ (List.mem_append_right _ (List.mem_append_right _ (List.mem_append_left _ (List.mem_of_getElem? (i := 216) rfl)))), rfl⟩
theorem b_458 : (Cond.code y_Model_digitAt b_Model_digitAt 3 (some .boolean)) ∈ BIG := List.mem_filter.mpr ⟨List.mem_append_right _ (List.mem_append_right _ (List.mem_append_right _ (List.mem_append_right _ (List.mem_of_getElem? (i := 203) rfl)))), rfl⟩
theorem b_459 : (Cond.instanceMethod y_Model_digitAt) ∈ BIG := List.mem_filter.mpr ⟨List.mem_append_right _ (List.mem_append_right _ (List.mem_append_right _ (List.mem_append_right _ (List.mem_of_getElem? (i := 202) rfl)))), rfl⟩
theorem b_460 : (Cond.selects R_Model y_Model_digitAt y_Model_digitAt) ∈ BIG := List.mem_filter.mpr ⟨List.mem_append_left _ (List.mem_map.mpr ⟨_, (List.mem_append_right _ (List.mem_append_right _ (List.mem_append_right _ (List.mem_append_right _ (List.mem_append_right _ (List.mem_of_getElem? (i := 12) rfl)))))), rfl⟩), rfl⟩
theorem b_461 : (Cond.methodLink R_Model 182 y_Model_digitAt) ∈ BIG := List.mem_filter.mpr ⟨List.mem_append_right _ (List.mem_append_right _ (List.mem_append_right _ (List.mem_append_right _ (List.mem_of_getElem? (i := 200) rfl)))), rfl⟩
theorem b_462 : (Cond.code y_Model_body b_Model_body 16 (some .boolean)) ∈ BIG := List.mem_filter.mpr ⟨List.mem_append_right _ (List.mem_append_right _ (List.mem_append_right _ (List.mem_append_right _ (List.mem_of_getElem? (i := 199) rfl)))), rfl⟩
theorem b_463 : (Cond.instanceMethod y_Model_body) ∈ BIG := List.mem_filter.mpr ⟨List.mem_append_right _ (List.mem_append_right _ (List.mem_append_right _ (List.mem_append_right _ (List.mem_of_getElem? (i := 198) rfl)))), rfl⟩
theorem b_464 : (Cond.selects R_Model y_Model_body y_Model_body) ∈ BIG := List.mem_filter.mpr ⟨List.mem_append_left _ (List.mem_map.mpr ⟨_, (List.mem_append_right _ (List.mem_append_right _ (List.mem_append_right _ (List.mem_append_right _ (List.mem_append_right _ (List.mem_of_getElem? (i := 11) rfl)))))), rfl⟩), rfl⟩
theorem b_465 : (Cond.methodLink R_Model 193 y_Model_body) ∈ BIG := List.mem_filter.mpr ⟨List.mem_append_right _ (List.mem_append_right _ (List.mem_append_right _ (List.mem_append_right _ (List.mem_of_getElem? (i := 196) rfl)))), rfl⟩
theorem b_466 : (Cond.code y_Model_ofSign b_Model_ofSign 6 (some .boolean)) ∈ BIG := List.mem_filter.mpr ⟨List.mem_append_right _ (List.mem_append_right _ (List.mem_append_right _ (List.mem_append_right _ (List.mem_of_getElem? (i := 195) rfl)))), rfl⟩
theorem b_467 : (Cond.instanceMethod y_Model_ofSign) ∈ BIG := List.mem_filter.mpr ⟨List.mem_append_right _ (List.mem_append_right _ (List.mem_append_right _ (List.mem_append_right _ (List.mem_of_getElem? (i := 194) rfl)))), rfl⟩
theorem b_468 : (Cond.selects R_Model y_Model_ofSign y_Model_ofSign) ∈ BIG := List.mem_filter.mpr ⟨List.mem_append_left _ (List.mem_map.mpr ⟨_, (List.mem_append_right _ (List.mem_append_right _ (List.mem_append_right _ (List.mem_append_right _ (List.mem_append_right _ (List.mem_of_getElem? (i := 10) rfl)))))), rfl⟩), rfl⟩
theorem b_469 : (Cond.methodLink R_Model 196 y_Model_ofSign) ∈ BIG := List.mem_filter.mpr ⟨List.mem_append_right _ (List.mem_append_right _ (List.mem_append_right _ (List.mem_append_right _ (List.mem_of_getElem? (i := 192) rfl)))), rfl⟩
theorem b_470 : (Cond.fieldLink R_Model 199 R_Model "read" "J") ∈ BIG := List.mem_filter.mpr ⟨List.mem_append_right _ (List.mem_append_right _ (List.mem_append_right _ (List.mem_append_left _ (List.mem_of_getElem? (i := 213) rfl)))), rfl⟩
theorem b_471 : (Cond.fieldLink R_Model 202 R_Model "readScale" "I") ∈ BIG := List.mem_filter.mpr ⟨List.mem_append_right _ (List.mem_append_right _ (List.mem_append_right _ (List.mem_append_left _ (List.mem_of_getElem? (i := 214) rfl)))), rfl⟩
theorem n_0 : (Cond.methodLinkNest R_Affix 30 y_Row_add "PatternedDecimals") ∈ NESTS := List.mem_filter.mpr ⟨List.mem_append_right _ (List.mem_append_right _ (List.mem_append_right _ (List.mem_append_left _ (List.mem_of_getElem? (i := 12) rfl)))), rfl⟩
theorem n_1 : (Cond.methodLinkNest R_Affix 35 y_Row_at "PatternedDecimals") ∈ NESTS := List.mem_filter.mpr ⟨List.mem_append_right _ (List.mem_append_right _ (List.mem_append_right _ (List.mem_append_left _ (List.mem_of_getElem? (i := 139) rfl)))), rfl⟩
theorem n_2 : (Cond.fieldLinkNest R_Pattern 26 R_Part "prefix" "LPatternedDecimals$Affix;" "PatternedDecimals") ∈ NESTS := List.mem_filter.mpr ⟨List.mem_append_right _ (List.mem_append_left _ (List.mem_of_getElem? (i := 220) rfl)), rfl⟩
theorem n_3 : (Cond.methodLinkNest R_Pattern 30 y_Affix_hasPercent "PatternedDecimals") ∈ NESTS := List.mem_filter.mpr ⟨List.mem_append_right _ (List.mem_append_right _ (List.mem_append_left _ (List.mem_of_getElem? (i := 161) rfl))), rfl⟩
theorem n_4 : (Cond.methodLinkNest R_Pattern 38 y_Affix_clear "PatternedDecimals") ∈ NESTS := List.mem_filter.mpr ⟨List.mem_append_right _ (List.mem_append_right _ (List.mem_append_left _ (List.mem_of_getElem? (i := 165) rfl))), rfl⟩
theorem n_5 : (Cond.methodLinkNest R_Pattern 41 y_Affix_add "PatternedDecimals") ∈ NESTS := List.mem_filter.mpr ⟨List.mem_append_right _ (List.mem_append_right _ (List.mem_append_left _ (List.mem_of_getElem? (i := 166) rfl))), rfl⟩
theorem n_6 : (Cond.methodLinkNest R_Pattern 45 y_Affix_addAll "PatternedDecimals") ∈ NESTS := List.mem_filter.mpr ⟨List.mem_append_right _ (List.mem_append_right _ (List.mem_append_left _ (List.mem_of_getElem? (i := 167) rfl))), rfl⟩
theorem n_7 : (Cond.fieldLinkNest R_Pattern 35 R_Part "suffix" "LPatternedDecimals$Affix;" "PatternedDecimals") ∈ NESTS := List.mem_filter.mpr ⟨List.mem_append_right _ (List.mem_append_left _ (List.mem_of_getElem? (i := 232) rfl)), rfl⟩
theorem n_8 : (Cond.methodLinkNest R_Pattern 49 y_Affix_at "PatternedDecimals") ∈ NESTS := List.mem_filter.mpr ⟨List.mem_append_right _ (List.mem_append_right _ (List.mem_append_right _ (List.mem_append_left _ (List.mem_of_getElem? (i := 88) rfl)))), rfl⟩
theorem n_9 : (Cond.methodLinkNest R_Pattern 53 y_Affix_endsAs "PatternedDecimals") ∈ NESTS := List.mem_filter.mpr ⟨List.mem_append_right _ (List.mem_append_right _ (List.mem_append_right _ (List.mem_append_left _ (List.mem_of_getElem? (i := 89) rfl)))), rfl⟩
theorem n_10 : (Cond.methodLinkNest R_PatternReader 63 y_Affix_clear "PatternedDecimals") ∈ NESTS := List.mem_filter.mpr ⟨List.mem_append_right _ (List.mem_append_right _ (List.mem_append_left _ (List.mem_of_getElem? (i := 108) rfl))), rfl⟩
theorem n_11 : (Cond.methodLinkNest R_PatternReader 38 y_Row_size "PatternedDecimals") ∈ NESTS := List.mem_filter.mpr ⟨List.mem_append_right _ (List.mem_append_right _ (List.mem_append_left _ (List.mem_of_getElem? (i := 112) rfl))), rfl⟩
theorem n_12 : (Cond.methodLinkNest R_PatternReader 29 y_Row_at "PatternedDecimals") ∈ NESTS := List.mem_filter.mpr ⟨List.mem_append_right _ (List.mem_append_right _ (List.mem_append_left _ (List.mem_of_getElem? (i := 113) rfl))), rfl⟩
theorem n_13 : (Cond.methodLinkNest R_PatternReader 72 y_Deci_isSpecial "PatternedDecimals") ∈ NESTS := List.mem_filter.mpr ⟨List.mem_append_right _ (List.mem_append_right _ (List.mem_append_left _ (List.mem_of_getElem? (i := 121) rfl))), rfl⟩
theorem n_14 : (Cond.methodLinkNest R_PatternReader 68 y_Affix_add "PatternedDecimals") ∈ NESTS := List.mem_filter.mpr ⟨List.mem_append_right _ (List.mem_append_right _ (List.mem_append_left _ (List.mem_of_getElem? (i := 117) rfl))), rfl⟩
theorem n_15 : (Cond.methodLinkNest R_PatternReader 96 y_Shape_takeInteger "PatternedDecimals") ∈ NESTS := List.mem_filter.mpr ⟨List.mem_append_right _ (List.mem_append_right _ (List.mem_append_left _ (List.mem_of_getElem? (i := 137) rfl))), rfl⟩
theorem n_16 : (Cond.methodLinkNest R_PatternReader 93 y_Shape_startGroup "PatternedDecimals") ∈ NESTS := List.mem_filter.mpr ⟨List.mem_append_right _ (List.mem_append_right _ (List.mem_append_left _ (List.mem_of_getElem? (i := 133) rfl))), rfl⟩
theorem n_17 : (Cond.methodLinkNest R_PatternReader 99 y_Shape_takeFraction "PatternedDecimals") ∈ NESTS := List.mem_filter.mpr ⟨List.mem_append_right _ (List.mem_append_right _ (List.mem_append_left _ (List.mem_of_getElem? (i := 145) rfl))), rfl⟩
theorem n_18 : (Cond.fieldLinkNest R_PatternReader 102 R_Shape "exponentZeros" "I" "PatternedDecimals") ∈ NESTS := List.mem_filter.mpr ⟨List.mem_append_right _ (List.mem_append_left _ (List.mem_of_getElem? (i := 202) rfl)), rfl⟩
theorem n_19 : (Cond.methodLinkNest R_PatternReader 76 y_Shape_clear "PatternedDecimals") ∈ NESTS := List.mem_filter.mpr ⟨List.mem_append_right _ (List.mem_append_right _ (List.mem_append_left _ (List.mem_of_getElem? (i := 128) rfl))), rfl⟩
theorem n_20 : (Cond.methodLinkNest R_PatternReader 86 y_Shape_allowsExponent "PatternedDecimals") ∈ NESTS := List.mem_filter.mpr ⟨List.mem_append_right _ (List.mem_append_right _ (List.mem_append_left _ (List.mem_of_getElem? (i := 149) rfl))), rfl⟩
theorem n_21 : (Cond.fieldLinkNest R_PatternReader 42 R_Part "prefix" "LPatternedDecimals$Affix;" "PatternedDecimals") ∈ NESTS := List.mem_filter.mpr ⟨List.mem_append_right _ (List.mem_append_left _ (List.mem_of_getElem? (i := 222) rfl)), rfl⟩
theorem n_22 : (Cond.fieldLinkNest R_PatternReader 52 R_Part "shape" "LPatternedDecimals$Shape;" "PatternedDecimals") ∈ NESTS := List.mem_filter.mpr ⟨List.mem_append_right _ (List.mem_append_left _ (List.mem_of_getElem? (i := 227) rfl)), rfl⟩
theorem n_23 : (Cond.fieldLinkNest R_PatternReader 60 R_Part "suffix" "LPatternedDecimals$Affix;" "PatternedDecimals") ∈ NESTS := List.mem_filter.mpr ⟨List.mem_append_right _ (List.mem_append_left _ (List.mem_of_getElem? (i := 234) rfl)), rfl⟩
theorem n_24 : (Cond.fieldLinkNest R_PatternReader 15 R_Pattern "hasSecond" "Z" "PatternedDecimals") ∈ NESTS := List.mem_filter.mpr ⟨List.mem_append_right _ (List.mem_append_right _ (List.mem_append_left _ (List.mem_of_getElem? (i := 16) rfl))), rfl⟩
theorem n_25 : (Cond.fieldLinkNest R_PatternReader 21 R_Pattern "first" "LPatternedDecimals$Part;" "PatternedDecimals") ∈ NESTS := List.mem_filter.mpr ⟨List.mem_append_right _ (List.mem_append_right _ (List.mem_append_left _ (List.mem_of_getElem? (i := 6) rfl))), rfl⟩
theorem n_26 : (Cond.fieldLinkNest R_PatternReader 35 R_Pattern "second" "LPatternedDecimals$Part;" "PatternedDecimals") ∈ NESTS := List.mem_filter.mpr ⟨List.mem_append_right _ (List.mem_append_right _ (List.mem_append_left _ (List.mem_of_getElem? (i := 11) rfl))), rfl⟩
theorem n_27 : (Cond.methodLinkNest R_PatternWriter 75 y_Deci_isSpecial "PatternedDecimals") ∈ NESTS := List.mem_filter.mpr ⟨List.mem_append_right _ (List.mem_append_right _ (List.mem_append_right _ (List.mem_append_left _ (List.mem_of_getElem? (i := 69) rfl)))), rfl⟩
theorem n_28 : (Cond.methodLinkNest R_PatternWriter 58 y_Affix_size "PatternedDecimals") ∈ NESTS := List.mem_filter.mpr ⟨List.mem_append_right _ (List.mem_append_right _ (List.mem_append_right _ (List.mem_append_left _ (List.mem_of_getElem? (i := 61) rfl)))), rfl⟩
theorem n_29 : (Cond.methodLinkNest R_PatternWriter 51 y_Row_add "PatternedDecimals") ∈ NESTS := List.mem_filter.mpr ⟨List.mem_append_right _ (List.mem_append_right _ (List.mem_append_right _ (List.mem_append_left _ (List.mem_of_getElem? (i := 70) rfl)))), rfl⟩
theorem n_30 : (Cond.methodLinkNest R_PatternWriter 64 y_Affix_at "PatternedDecimals") ∈ NESTS := List.mem_filter.mpr ⟨List.mem_append_right _ (List.mem_append_right _ (List.mem_append_right _ (List.mem_append_left _ (List.mem_of_getElem? (i := 65) rfl)))), rfl⟩
theorem n_31 : (Cond.methodLinkNest R_PatternWriter 72 y_Affix_shownAt "PatternedDecimals") ∈ NESTS := List.mem_filter.mpr ⟨List.mem_append_right _ (List.mem_append_right _ (List.mem_append_right _ (List.mem_append_left _ (List.mem_of_getElem? (i := 71) rfl)))), rfl⟩
theorem n_32 : (Cond.fieldLinkNest R_PatternWriter 97 R_Shape "group" "I" "PatternedDecimals") ∈ NESTS := List.mem_filter.mpr ⟨List.mem_append_right _ (List.mem_append_left _ (List.mem_of_getElem? (i := 194) rfl)), rfl⟩
theorem n_33 : (Cond.fieldLinkNest R_PatternWriter 100 R_Shape "leastInteger" "I" "PatternedDecimals") ∈ NESTS := List.mem_filter.mpr ⟨List.mem_append_right _ (List.mem_append_left _ (List.mem_of_getElem? (i := 182) rfl)), rfl⟩
theorem n_34 : (Cond.fieldLinkNest R_PatternWriter 81 R_Shape "mostFraction" "I" "PatternedDecimals") ∈ NESTS := List.mem_filter.mpr ⟨List.mem_append_right _ (List.mem_append_left _ (List.mem_of_getElem? (i := 190) rfl)), rfl⟩
theorem n_35 : (Cond.fieldLinkNest R_PatternWriter 94 R_Shape "exponentZeros" "I" "PatternedDecimals") ∈ NESTS := List.mem_filter.mpr ⟨List.mem_append_right _ (List.mem_append_left _ (List.mem_of_getElem? (i := 200) rfl)), rfl⟩
theorem n_36 : (Cond.fieldLinkNest R_PatternWriter 87 R_Shape "leastFraction" "I" "PatternedDecimals") ∈ NESTS := List.mem_filter.mpr ⟨List.mem_append_right _ (List.mem_append_left _ (List.mem_of_getElem? (i := 185) rfl)), rfl⟩
theorem n_37 : (Cond.methodLinkNest R_PatternWriter 9 y_Row_clear "PatternedDecimals") ∈ NESTS := List.mem_filter.mpr ⟨List.mem_append_right _ (List.mem_append_right _ (List.mem_append_right _ (List.mem_append_left _ (List.mem_of_getElem? (i := 56) rfl)))), rfl⟩
theorem n_38 : (Cond.fieldLinkNest R_PatternWriter 14 R_Pattern "first" "LPatternedDecimals$Part;" "PatternedDecimals") ∈ NESTS := List.mem_filter.mpr ⟨List.mem_append_right _ (List.mem_append_right _ (List.mem_append_left _ (List.mem_of_getElem? (i := 5) rfl))), rfl⟩
theorem n_39 : (Cond.fieldLinkNest R_PatternWriter 20 R_Part "prefix" "LPatternedDecimals$Affix;" "PatternedDecimals") ∈ NESTS := List.mem_filter.mpr ⟨List.mem_append_right _ (List.mem_append_left _ (List.mem_of_getElem? (i := 221) rfl)), rfl⟩
theorem n_40 : (Cond.fieldLinkNest R_PatternWriter 32 R_Part "shape" "LPatternedDecimals$Shape;" "PatternedDecimals") ∈ NESTS := List.mem_filter.mpr ⟨List.mem_append_right _ (List.mem_append_left _ (List.mem_of_getElem? (i := 226) rfl)), rfl⟩
theorem n_41 : (Cond.fieldLinkNest R_PatternWriter 40 R_Part "suffix" "LPatternedDecimals$Affix;" "PatternedDecimals") ∈ NESTS := List.mem_filter.mpr ⟨List.mem_append_right _ (List.mem_append_left _ (List.mem_of_getElem? (i := 233) rfl)), rfl⟩
theorem n_42 : (Cond.fieldLinkNest R_PatternWriter 43 R_Pattern "hasSecond" "Z" "PatternedDecimals") ∈ NESTS := List.mem_filter.mpr ⟨List.mem_append_right _ (List.mem_append_right _ (List.mem_append_left _ (List.mem_of_getElem? (i := 17) rfl))), rfl⟩
theorem n_43 : (Cond.methodLinkNest R_PatternWriter 47 y_Pattern_secondIsUsual "PatternedDecimals") ∈ NESTS := List.mem_filter.mpr ⟨List.mem_append_right _ (List.mem_append_right _ (List.mem_append_right _ (List.mem_append_left _ (List.mem_of_getElem? (i := 84) rfl)))), rfl⟩
theorem n_44 : (Cond.fieldLinkNest R_PatternWriter 55 R_Pattern "second" "LPatternedDecimals$Part;" "PatternedDecimals") ∈ NESTS := List.mem_filter.mpr ⟨List.mem_append_right _ (List.mem_append_right _ (List.mem_append_left _ (List.mem_of_getElem? (i := 12) rfl))), rfl⟩
theorem n_45 : (Cond.methodLinkNest R_Decimal 33 y_Deci_tenTo "PatternedDecimals") ∈ NESTS := List.mem_filter.mpr ⟨List.mem_append_right _ (List.mem_append_right _ (List.mem_append_left _ (List.mem_of_getElem? (i := 200) rfl))), rfl⟩
theorem n_46 : (Cond.fieldLinkNest R_NumberWriter 56 R_Decimal "digits" "J" "PatternedDecimals") ∈ NESTS := List.mem_filter.mpr ⟨List.mem_append_right _ (List.mem_append_left _ (List.mem_of_getElem? (i := 76) rfl)), rfl⟩
theorem n_47 : (Cond.methodLinkNest R_NumberWriter 60 y_Deci_digitCount "PatternedDecimals") ∈ NESTS := List.mem_filter.mpr ⟨List.mem_append_right _ (List.mem_append_right _ (List.mem_append_left _ (List.mem_of_getElem? (i := 223) rfl))), rfl⟩
theorem n_48 : (Cond.fieldLinkNest R_NumberWriter 64 R_Decimal "places" "I" "PatternedDecimals") ∈ NESTS := List.mem_filter.mpr ⟨List.mem_append_right _ (List.mem_append_left _ (List.mem_of_getElem? (i := 78) rfl)), rfl⟩
theorem n_49 : (Cond.methodLinkNest R_NumberWriter 67 y_Deci_tenTo "PatternedDecimals") ∈ NESTS := List.mem_filter.mpr ⟨List.mem_append_right _ (List.mem_append_right _ (List.mem_append_left _ (List.mem_of_getElem? (i := 226) rfl))), rfl⟩
theorem n_50 : (Cond.methodLinkNest R_NumberWriter 71 y_Decimal_whole "PatternedDecimals") ∈ NESTS := List.mem_filter.mpr ⟨List.mem_append_right _ (List.mem_append_right _ (List.mem_append_left _ (List.mem_of_getElem? (i := 231) rfl))), rfl⟩
theorem n_51 : (Cond.methodLinkNest R_NumberWriter 30 y_Decimal_set "PatternedDecimals") ∈ NESTS := List.mem_filter.mpr ⟨List.mem_append_right _ (List.mem_append_right _ (List.mem_append_left _ (List.mem_of_getElem? (i := 195) rfl))), rfl⟩
theorem n_52 : (Cond.fieldLinkNest R_NumberWriter 34 R_Shape "exponentZeros" "I" "PatternedDecimals") ∈ NESTS := List.mem_filter.mpr ⟨List.mem_append_right _ (List.mem_append_left _ (List.mem_of_getElem? (i := 199) rfl)), rfl⟩
theorem n_53 : (Cond.fieldLinkNest R_NumberWriter 39 R_Shape "mostFraction" "I" "PatternedDecimals") ∈ NESTS := List.mem_filter.mpr ⟨List.mem_append_right _ (List.mem_append_left _ (List.mem_of_getElem? (i := 189) rfl)), rfl⟩
theorem n_54 : (Cond.methodLinkNest R_NumberWriter 42 y_Decimal_roundTo "PatternedDecimals") ∈ NESTS := List.mem_filter.mpr ⟨List.mem_append_right _ (List.mem_append_right _ (List.mem_append_left _ (List.mem_of_getElem? (i := 196) rfl))), rfl⟩
theorem n_55 : (Cond.fieldLinkNest R_NumberWriter 46 R_Shape "leastInteger" "I" "PatternedDecimals") ∈ NESTS := List.mem_filter.mpr ⟨List.mem_append_right _ (List.mem_append_left _ (List.mem_of_getElem? (i := 181) rfl)), rfl⟩
theorem n_56 : (Cond.methodLinkNest R_NumberWriter 122 y_Decimal_fractionCount "PatternedDecimals") ∈ NESTS := List.mem_filter.mpr ⟨List.mem_append_right _ (List.mem_append_right _ (List.mem_append_right _ (List.mem_append_left _ (List.mem_of_getElem? (i := 23) rfl)))), rfl⟩
theorem n_57 : (Cond.fieldLinkNest R_NumberWriter 126 R_Shape "leastFraction" "I" "PatternedDecimals") ∈ NESTS := List.mem_filter.mpr ⟨List.mem_append_right _ (List.mem_append_left _ (List.mem_of_getElem? (i := 187) rfl)), rfl⟩
theorem n_58 : (Cond.methodLinkNest R_NumberWriter 149 y_Row_add "PatternedDecimals") ∈ NESTS := List.mem_filter.mpr ⟨List.mem_append_right _ (List.mem_append_right _ (List.mem_append_right _ (List.mem_append_left _ (List.mem_of_getElem? (i := 31) rfl)))), rfl⟩
theorem n_59 : (Cond.methodLinkNest R_NumberWriter 135 y_Row_size "PatternedDecimals") ∈ NESTS := List.mem_filter.mpr ⟨List.mem_append_right _ (List.mem_append_right _ (List.mem_append_right _ (List.mem_append_left _ (List.mem_of_getElem? (i := 17) rfl)))), rfl⟩
theorem n_60 : (Cond.fieldLinkNest R_NumberWriter 142 R_Shape "group" "I" "PatternedDecimals") ∈ NESTS := List.mem_filter.mpr ⟨List.mem_append_right _ (List.mem_append_left _ (List.mem_of_getElem? (i := 197) rfl)), rfl⟩
theorem n_61 : (Cond.methodLinkNest R_NumberWriter 153 y_Decimal_fractionDigit "PatternedDecimals") ∈ NESTS := List.mem_filter.mpr ⟨List.mem_append_right _ (List.mem_append_right _ (List.mem_append_right _ (List.mem_append_left _ (List.mem_of_getElem? (i := 37) rfl)))), rfl⟩
theorem n_62 : (Cond.methodLinkNest R_NumberWriter 75 y_Decimal_isBelowZero "PatternedDecimals") ∈ NESTS := List.mem_filter.mpr ⟨List.mem_append_right _ (List.mem_append_right _ (List.mem_append_left _ (List.mem_of_getElem? (i := 239) rfl))), rfl⟩
theorem n_63 : (Cond.fieldLinkNest R_NumberWriter 85 R_Pattern "first" "LPatternedDecimals$Part;" "PatternedDecimals") ∈ NESTS := List.mem_filter.mpr ⟨List.mem_append_right _ (List.mem_append_right _ (List.mem_append_left _ (List.mem_of_getElem? (i := 9) rfl))), rfl⟩
theorem n_64 : (Cond.fieldLinkNest R_NumberWriter 88 R_Part "shape" "LPatternedDecimals$Shape;" "PatternedDecimals") ∈ NESTS := List.mem_filter.mpr ⟨List.mem_append_right _ (List.mem_append_left _ (List.mem_of_getElem? (i := 230) rfl)), rfl⟩
theorem n_65 : (Cond.methodLinkNest R_NumberWriter 94 y_Row_clear "PatternedDecimals") ∈ NESTS := List.mem_filter.mpr ⟨List.mem_append_right _ (List.mem_append_right _ (List.mem_append_right _ (List.mem_append_left _ (List.mem_of_getElem? (i := 3) rfl)))), rfl⟩
theorem n_66 : (Cond.fieldLinkNest R_NumberWriter 99 R_Part "prefix" "LPatternedDecimals$Affix;" "PatternedDecimals") ∈ NESTS := List.mem_filter.mpr ⟨List.mem_append_right _ (List.mem_append_left _ (List.mem_of_getElem? (i := 224) rfl)), rfl⟩
theorem n_67 : (Cond.methodLinkNest R_NumberWriter 103 y_Affix_show "PatternedDecimals") ∈ NESTS := List.mem_filter.mpr ⟨List.mem_append_right _ (List.mem_append_right _ (List.mem_append_right _ (List.mem_append_left _ (List.mem_of_getElem? (i := 4) rfl)))), rfl⟩
theorem n_68 : (Cond.fieldLinkNest R_NumberWriter 119 R_Part "suffix" "LPatternedDecimals$Affix;" "PatternedDecimals") ∈ NESTS := List.mem_filter.mpr ⟨List.mem_append_right _ (List.mem_append_left _ (List.mem_of_getElem? (i := 236) rfl)), rfl⟩
theorem n_69 : (Cond.fieldLinkNest R_NumberWriter 79 R_Pattern "second" "LPatternedDecimals$Part;" "PatternedDecimals") ∈ NESTS := List.mem_filter.mpr ⟨List.mem_append_right _ (List.mem_append_right _ (List.mem_append_left _ (List.mem_of_getElem? (i := 14) rfl))), rfl⟩
theorem n_70 : (Cond.fieldLinkNest R_NumberReader 71 R_Part "prefix" "LPatternedDecimals$Affix;" "PatternedDecimals") ∈ NESTS := List.mem_filter.mpr ⟨List.mem_append_right _ (List.mem_append_left _ (List.mem_of_getElem? (i := 223) rfl)), rfl⟩
theorem n_71 : (Cond.methodLinkNest R_NumberReader 75 y_Affix_size "PatternedDecimals") ∈ NESTS := List.mem_filter.mpr ⟨List.mem_append_right _ (List.mem_append_right _ (List.mem_append_right _ (List.mem_append_left _ (List.mem_of_getElem? (i := 133) rfl)))), rfl⟩
theorem n_72 : (Cond.methodLinkNest R_NumberReader 81 y_Row_size "PatternedDecimals") ∈ NESTS := List.mem_filter.mpr ⟨List.mem_append_right _ (List.mem_append_right _ (List.mem_append_right _ (List.mem_append_left _ (List.mem_of_getElem? (i := 134) rfl)))), rfl⟩
theorem n_73 : (Cond.fieldLinkNest R_NumberReader 84 R_Part "suffix" "LPatternedDecimals$Affix;" "PatternedDecimals") ∈ NESTS := List.mem_filter.mpr ⟨List.mem_append_right _ (List.mem_append_left _ (List.mem_of_getElem? (i := 235) rfl)), rfl⟩
theorem n_74 : (Cond.methodLinkNest R_NumberReader 87 y_Affix_standsIn "PatternedDecimals") ∈ NESTS := List.mem_filter.mpr ⟨List.mem_append_right _ (List.mem_append_right _ (List.mem_append_right _ (List.mem_append_left _ (List.mem_of_getElem? (i := 135) rfl)))), rfl⟩
theorem n_75 : (Cond.methodLinkNest R_NumberReader 97 y_Row_at "PatternedDecimals") ∈ NESTS := List.mem_filter.mpr ⟨List.mem_append_right _ (List.mem_append_right _ (List.mem_append_right _ (List.mem_append_left _ (List.mem_of_getElem? (i := 152) rfl)))), rfl⟩
theorem n_76 : (Cond.methodLinkNest R_NumberReader 136 y_Deci_tenTo "PatternedDecimals") ∈ NESTS := List.mem_filter.mpr ⟨List.mem_append_right _ (List.mem_append_right _ (List.mem_append_right _ (List.mem_append_left _ (List.mem_of_getElem? (i := 160) rfl)))), rfl⟩
theorem n_77 : (Cond.methodLinkNest R_NumberReader 125 y_Deci_isDigit "PatternedDecimals") ∈ NESTS := List.mem_filter.mpr ⟨List.mem_append_right _ (List.mem_append_right _ (List.mem_append_right _ (List.mem_append_left _ (List.mem_of_getElem? (i := 153) rfl)))), rfl⟩
theorem n_78 : (Cond.fieldLinkNest R_NumberReader 101 R_Shape "group" "I" "PatternedDecimals") ∈ NESTS := List.mem_filter.mpr ⟨List.mem_append_right _ (List.mem_append_left _ (List.mem_of_getElem? (i := 196) rfl)), rfl⟩
theorem n_79 : (Cond.fieldLinkNest R_NumberReader 118 R_Shape "exponentZeros" "I" "PatternedDecimals") ∈ NESTS := List.mem_filter.mpr ⟨List.mem_append_right _ (List.mem_append_left _ (List.mem_of_getElem? (i := 203) rfl)), rfl⟩
theorem n_80 : (Cond.fieldLinkNest R_NumberReader 42 R_Pattern "first" "LPatternedDecimals$Part;" "PatternedDecimals") ∈ NESTS := List.mem_filter.mpr ⟨List.mem_append_right _ (List.mem_append_right _ (List.mem_append_left _ (List.mem_of_getElem? (i := 7) rfl))), rfl⟩
theorem n_81 : (Cond.fieldLinkNest R_NumberReader 48 R_Part "shape" "LPatternedDecimals$Shape;" "PatternedDecimals") ∈ NESTS := List.mem_filter.mpr ⟨List.mem_append_right _ (List.mem_append_left _ (List.mem_of_getElem? (i := 228) rfl)), rfl⟩
theorem n_82 : (Cond.fieldLinkNest R_NumberReader 54 R_Pattern "hasPercent" "Z" "PatternedDecimals") ∈ NESTS := List.mem_filter.mpr ⟨List.mem_append_right _ (List.mem_append_right _ (List.mem_append_left _ (List.mem_of_getElem? (i := 20) rfl))), rfl⟩
theorem n_83 : (Cond.fieldLinkNest R_NumberReader 65 R_Pattern "second" "LPatternedDecimals$Part;" "PatternedDecimals") ∈ NESTS := List.mem_filter.mpr ⟨List.mem_append_right _ (List.mem_append_right _ (List.mem_append_left _ (List.mem_of_getElem? (i := 13) rfl))), rfl⟩
theorem n_84 : (Cond.methodLinkNest R_Deci 72 y_Row_add "PatternedDecimals") ∈ NESTS := List.mem_filter.mpr ⟨List.mem_append_right _ (List.mem_append_right _ (List.mem_append_left _ (List.mem_of_getElem? (i := 72) rfl))), rfl⟩
theorem n_85 : (Cond.methodLinkNest R_Deci 76 y_Row_clear "PatternedDecimals") ∈ NESTS := List.mem_filter.mpr ⟨List.mem_append_right _ (List.mem_append_right _ (List.mem_append_left _ (List.mem_of_getElem? (i := 80) rfl))), rfl⟩
theorem n_86 : (Cond.methodLinkNest R_Deci 79 y_Row_size "PatternedDecimals") ∈ NESTS := List.mem_filter.mpr ⟨List.mem_append_right _ (List.mem_append_right _ (List.mem_append_left _ (List.mem_of_getElem? (i := 88) rfl))), rfl⟩
theorem n_87 : (Cond.methodLinkNest R_Deci 83 y_PatternReader_read "PatternedDecimals") ∈ NESTS := List.mem_filter.mpr ⟨List.mem_append_right _ (List.mem_append_right _ (List.mem_append_left _ (List.mem_of_getElem? (i := 96) rfl))), rfl⟩
theorem n_88 : (Cond.methodLinkNest R_Deci 87 y_Pattern_complete "PatternedDecimals") ∈ NESTS := List.mem_filter.mpr ⟨List.mem_append_right _ (List.mem_append_right _ (List.mem_append_left _ (List.mem_of_getElem? (i := 157) rfl))), rfl⟩
theorem n_89 : (Cond.fieldLinkNest R_Deci 90 R_Pattern "first" "LPatternedDecimals$Part;" "PatternedDecimals") ∈ NESTS := List.mem_filter.mpr ⟨List.mem_append_right _ (List.mem_append_right _ (List.mem_append_left _ (List.mem_of_getElem? (i := 8) rfl))), rfl⟩
theorem n_90 : (Cond.fieldLinkNest R_Deci 94 R_Part "shape" "LPatternedDecimals$Shape;" "PatternedDecimals") ∈ NESTS := List.mem_filter.mpr ⟨List.mem_append_right _ (List.mem_append_left _ (List.mem_of_getElem? (i := 229) rfl)), rfl⟩
theorem n_91 : (Cond.fieldLinkNest R_Deci 100 R_Shape "leastInteger" "I" "PatternedDecimals") ∈ NESTS := List.mem_filter.mpr ⟨List.mem_append_right _ (List.mem_append_left _ (List.mem_of_getElem? (i := 183) rfl)), rfl⟩
theorem n_92 : (Cond.fieldLinkNest R_Deci 105 R_Shape "leastFraction" "I" "PatternedDecimals") ∈ NESTS := List.mem_filter.mpr ⟨List.mem_append_right _ (List.mem_append_left _ (List.mem_of_getElem? (i := 186) rfl)), rfl⟩
theorem n_93 : (Cond.fieldLinkNest R_Deci 108 R_Shape "mostFraction" "I" "PatternedDecimals") ∈ NESTS := List.mem_filter.mpr ⟨List.mem_append_right _ (List.mem_append_left _ (List.mem_of_getElem? (i := 191) rfl)), rfl⟩
theorem n_94 : (Cond.fieldLinkNest R_Deci 111 R_Shape "group" "I" "PatternedDecimals") ∈ NESTS := List.mem_filter.mpr ⟨List.mem_append_right _ (List.mem_append_left _ (List.mem_of_getElem? (i := 195) rfl)), rfl⟩
theorem n_95 : (Cond.fieldLinkNest R_Deci 114 R_Shape "exponentZeros" "I" "PatternedDecimals") ∈ NESTS := List.mem_filter.mpr ⟨List.mem_append_right _ (List.mem_append_left _ (List.mem_of_getElem? (i := 201) rfl)), rfl⟩
theorem n_96 : (Cond.fieldLinkNest R_Deci 117 R_Pattern "hasPercent" "Z" "PatternedDecimals") ∈ NESTS := List.mem_filter.mpr ⟨List.mem_append_right _ (List.mem_append_right _ (List.mem_append_left _ (List.mem_of_getElem? (i := 21) rfl))), rfl⟩
theorem n_97 : (Cond.fieldLinkNest R_Deci 120 R_Pattern "hasSecond" "Z" "PatternedDecimals") ∈ NESTS := List.mem_filter.mpr ⟨List.mem_append_right _ (List.mem_append_right _ (List.mem_append_left _ (List.mem_of_getElem? (i := 18) rfl))), rfl⟩
theorem n_98 : (Cond.methodLinkNest R_Deci 129 y_NumberWriter_prepare "PatternedDecimals") ∈ NESTS := List.mem_filter.mpr ⟨List.mem_append_right _ (List.mem_append_right _ (List.mem_append_left _ (List.mem_of_getElem? (i := 191) rfl))), rfl⟩
theorem n_99 : (Cond.methodLinkNest R_Deci 133 y_NumberWriter_write "PatternedDecimals") ∈ NESTS := List.mem_filter.mpr ⟨List.mem_append_right _ (List.mem_append_right _ (List.mem_append_left _ (List.mem_of_getElem? (i := 235) rfl))), rfl⟩
theorem n_100 : (Cond.methodLinkNest R_Deci 137 y_PatternWriter_write "PatternedDecimals") ∈ NESTS := List.mem_filter.mpr ⟨List.mem_append_right _ (List.mem_append_right _ (List.mem_append_right _ (List.mem_append_left _ (List.mem_of_getElem? (i := 52) rfl)))), rfl⟩
theorem n_101 : (Cond.methodLinkNest R_Deci 138 y_NumberWriter_forgetFields "PatternedDecimals") ∈ NESTS := List.mem_filter.mpr ⟨List.mem_append_right _ (List.mem_append_right _ (List.mem_append_right _ (List.mem_append_left _ (List.mem_of_getElem? (i := 93) rfl)))), rfl⟩
theorem n_102 : (Cond.methodLinkNest R_Deci 141 y_Row_at "PatternedDecimals") ∈ NESTS := List.mem_filter.mpr ⟨List.mem_append_right _ (List.mem_append_right _ (List.mem_append_right _ (List.mem_append_left _ (List.mem_of_getElem? (i := 101) rfl)))), rfl⟩
theorem n_103 : (Cond.methodLinkNest R_Deci 145 y_NumberWriter_fieldEdge "PatternedDecimals") ∈ NESTS := List.mem_filter.mpr ⟨List.mem_append_right _ (List.mem_append_right _ (List.mem_append_right _ (List.mem_append_left _ (List.mem_of_getElem? (i := 106) rfl)))), rfl⟩
theorem n_104 : (Cond.methodLinkNest R_Deci 149 y_Row_become "PatternedDecimals") ∈ NESTS := List.mem_filter.mpr ⟨List.mem_append_right _ (List.mem_append_right _ (List.mem_append_right _ (List.mem_append_left _ (List.mem_of_getElem? (i := 114) rfl)))), rfl⟩
theorem n_105 : (Cond.methodLinkNest R_Deci 153 y_NumberReader_read "PatternedDecimals") ∈ NESTS := List.mem_filter.mpr ⟨List.mem_append_right _ (List.mem_append_right _ (List.mem_append_right _ (List.mem_append_left _ (List.mem_of_getElem? (i := 125) rfl)))), rfl⟩
theorem n_106 : (Cond.methodLinkNest R_Deci 156 y_NumberReader_signedDigits "PatternedDecimals") ∈ NESTS := List.mem_filter.mpr ⟨List.mem_append_right _ (List.mem_append_right _ (List.mem_append_right _ (List.mem_append_left _ (List.mem_of_getElem? (i := 173) rfl)))), rfl⟩
theorem n_107 : (Cond.methodLinkNest R_Deci 160 y_NumberReader_places "PatternedDecimals") ∈ NESTS := List.mem_filter.mpr ⟨List.mem_append_right _ (List.mem_append_right _ (List.mem_append_right _ (List.mem_append_left _ (List.mem_of_getElem? (i := 177) rfl)))), rfl⟩
theorem in_Row : ∀ w ∈ u_ws R_Row F_Row 2, w ∈ BIG := (List.forall_mem_cons.mpr ⟨List.mem_filter.mpr ⟨List.mem_append_right _ (List.mem_append_left _ (List.mem_of_getElem? (i := 32) rfl)), rfl⟩, List.forall_mem_cons.mpr ⟨List.mem_filter.mpr ⟨List.mem_append_right _ (List.mem_append_left _ (List.mem_of_getElem? (i := 34) rfl)), rfl⟩, fun _ h => absurd h List.not_mem_nil⟩⟩ : ∀ w ∈ ([Cond.laysFinal R_Row R_Row "chars" "[C", Cond.lays R_Row R_Row "count" "I"] : List Cond), w ∈ BIG)
theorem in_Affix : ∀ w ∈ u_ws R_Affix F_Affix 2, w ∈ BIG := (List.forall_mem_cons.mpr ⟨List.mem_filter.mpr ⟨List.mem_append_right _ (List.mem_append_left _ (List.mem_of_getElem? (i := 164) rfl)), rfl⟩, List.forall_mem_cons.mpr ⟨List.mem_filter.mpr ⟨List.mem_append_right _ (List.mem_append_left _ (List.mem_of_getElem? (i := 166) rfl)), rfl⟩, fun _ h => absurd h List.not_mem_nil⟩⟩ : ∀ w ∈ ([Cond.laysFinal R_Affix R_Affix "elements" "[I", Cond.lays R_Affix R_Affix "count" "I"] : List Cond), w ∈ BIG)
theorem in_Shape : ∀ w ∈ u_ws R_Shape F_Shape 7, w ∈ BIG := (List.forall_mem_cons.mpr ⟨List.mem_filter.mpr ⟨List.mem_append_right _ (List.mem_append_left _ (List.mem_of_getElem? (i := 204) rfl)), rfl⟩, List.forall_mem_cons.mpr ⟨List.mem_filter.mpr ⟨List.mem_append_right _ (List.mem_append_left _ (List.mem_of_getElem? (i := 206) rfl)), rfl⟩, List.forall_mem_cons.mpr ⟨List.mem_filter.mpr ⟨List.mem_append_right _ (List.mem_append_left _ (List.mem_of_getElem? (i := 208) rfl)), rfl⟩, List.forall_mem_cons.mpr ⟨List.mem_filter.mpr ⟨List.mem_append_right _ (List.mem_append_left _ (List.mem_of_getElem? (i := 210) rfl)), rfl⟩, List.forall_mem_cons.mpr ⟨List.mem_filter.mpr ⟨List.mem_append_right _ (List.mem_append_left _ (List.mem_of_getElem? (i := 212) rfl)), rfl⟩, List.forall_mem_cons.mpr ⟨List.mem_filter.mpr ⟨List.mem_append_right _ (List.mem_append_left _ (List.mem_of_getElem? (i := 214) rfl)), rfl⟩, List.forall_mem_cons.mpr ⟨List.mem_filter.mpr ⟨List.mem_append_right _ (List.mem_append_left _ (List.mem_of_getElem? (i := 216) rfl)), rfl⟩, fun _ h => absurd h List.not_mem_nil⟩⟩⟩⟩⟩⟩⟩ : ∀ w ∈ ([Cond.lays R_Shape R_Shape "hashes" "I", Cond.lays R_Shape R_Shape "leastInteger" "I", Cond.lays R_Shape R_Shape "leastFraction" "I", Cond.lays R_Shape R_Shape "mostFraction" "I", Cond.lays R_Shape R_Shape "grouped" "Z", Cond.lays R_Shape R_Shape "group" "I", Cond.lays R_Shape R_Shape "exponentZeros" "I"] : List Cond), w ∈ BIG)
theorem in_Part : ∀ w ∈ u_ws R_Part F_Part 3, w ∈ BIG := (List.forall_mem_cons.mpr ⟨List.mem_filter.mpr ⟨List.mem_append_right _ (List.mem_append_left _ (List.mem_of_getElem? (i := 237) rfl)), rfl⟩, List.forall_mem_cons.mpr ⟨List.mem_filter.mpr ⟨List.mem_append_right _ (List.mem_append_left _ (List.mem_of_getElem? (i := 239) rfl)), rfl⟩, List.forall_mem_cons.mpr ⟨List.mem_filter.mpr ⟨List.mem_append_right _ (List.mem_append_right _ (List.mem_append_left _ (List.mem_of_getElem? (i := 1) rfl))), rfl⟩, fun _ h => absurd h List.not_mem_nil⟩⟩⟩ : ∀ w ∈ ([Cond.laysFinal R_Part R_Part "prefix" "LPatternedDecimals$Affix;", Cond.laysFinal R_Part R_Part "shape" "LPatternedDecimals$Shape;", Cond.laysFinal R_Part R_Part "suffix" "LPatternedDecimals$Affix;"] : List Cond), w ∈ BIG)
theorem in_Pattern : ∀ w ∈ u_ws R_Pattern F_Pattern 4, w ∈ BIG := (List.forall_mem_cons.mpr ⟨List.mem_filter.mpr ⟨List.mem_append_right _ (List.mem_append_right _ (List.mem_append_left _ (List.mem_of_getElem? (i := 22) rfl))), rfl⟩, List.forall_mem_cons.mpr ⟨List.mem_filter.mpr ⟨List.mem_append_right _ (List.mem_append_right _ (List.mem_append_left _ (List.mem_of_getElem? (i := 24) rfl))), rfl⟩, List.forall_mem_cons.mpr ⟨List.mem_filter.mpr ⟨List.mem_append_right _ (List.mem_append_right _ (List.mem_append_left _ (List.mem_of_getElem? (i := 26) rfl))), rfl⟩, List.forall_mem_cons.mpr ⟨List.mem_filter.mpr ⟨List.mem_append_right _ (List.mem_append_right _ (List.mem_append_left _ (List.mem_of_getElem? (i := 28) rfl))), rfl⟩, fun _ h => absurd h List.not_mem_nil⟩⟩⟩⟩ : ∀ w ∈ ([Cond.laysFinal R_Pattern R_Pattern "first" "LPatternedDecimals$Part;", Cond.laysFinal R_Pattern R_Pattern "second" "LPatternedDecimals$Part;", Cond.lays R_Pattern R_Pattern "hasSecond" "Z", Cond.lays R_Pattern R_Pattern "hasPercent" "Z"] : List Cond), w ∈ BIG)
theorem in_PatternReader : ∀ w ∈ u_ws R_PatternReader F_PatternReader 1, w ∈ BIG := (List.forall_mem_cons.mpr ⟨List.mem_filter.mpr ⟨List.mem_append_right _ (List.mem_append_left _ (List.mem_of_getElem? (i := 45) rfl)), rfl⟩, fun _ h => absurd h List.not_mem_nil⟩ : ∀ w ∈ ([Cond.lays R_PatternReader R_PatternReader "place" "I"] : List Cond), w ∈ BIG)
theorem in_PatternWriter : ∀ w ∈ u_ws R_PatternWriter F_PatternWriter 0, w ∈ BIG := (fun _ h => absurd h List.not_mem_nil : ∀ w ∈ ([] : List Cond), w ∈ BIG)
theorem in_Decimal : ∀ w ∈ u_ws R_Decimal F_Decimal 3, w ∈ BIG := (List.forall_mem_cons.mpr ⟨List.mem_filter.mpr ⟨List.mem_append_right _ (List.mem_append_left _ (List.mem_of_getElem? (i := 79) rfl)), rfl⟩, List.forall_mem_cons.mpr ⟨List.mem_filter.mpr ⟨List.mem_append_right _ (List.mem_append_left _ (List.mem_of_getElem? (i := 81) rfl)), rfl⟩, List.forall_mem_cons.mpr ⟨List.mem_filter.mpr ⟨List.mem_append_right _ (List.mem_append_left _ (List.mem_of_getElem? (i := 83) rfl)), rfl⟩, fun _ h => absurd h List.not_mem_nil⟩⟩⟩ : ∀ w ∈ ([Cond.lays R_Decimal R_Decimal "negative" "Z", Cond.lays R_Decimal R_Decimal "digits" "J", Cond.lays R_Decimal R_Decimal "places" "I"] : List Cond), w ∈ BIG)
theorem in_NumberWriter : ∀ w ∈ u_ws R_NumberWriter F_NumberWriter 4, w ∈ BIG := (List.forall_mem_cons.mpr ⟨List.mem_filter.mpr ⟨List.mem_append_right _ (List.mem_append_left _ (List.mem_of_getElem? (i := 90) rfl)), rfl⟩, List.forall_mem_cons.mpr ⟨List.mem_filter.mpr ⟨List.mem_append_right _ (List.mem_append_left _ (List.mem_of_getElem? (i := 92) rfl)), rfl⟩, List.forall_mem_cons.mpr ⟨List.mem_filter.mpr ⟨List.mem_append_right _ (List.mem_append_left _ (List.mem_of_getElem? (i := 94) rfl)), rfl⟩, List.forall_mem_cons.mpr ⟨List.mem_filter.mpr ⟨List.mem_append_right _ (List.mem_append_left _ (List.mem_of_getElem? (i := 96) rfl)), rfl⟩, fun _ h => absurd h List.not_mem_nil⟩⟩⟩⟩ : ∀ w ∈ ([Cond.laysFinal R_NumberWriter R_NumberWriter "decimal" "LPatternedDecimals$Decimal;", Cond.lays R_NumberWriter R_NumberWriter "exponent" "I", Cond.laysFinal R_NumberWriter R_NumberWriter "edges" "[I", Cond.lays R_NumberWriter R_NumberWriter "hasFields" "Z"] : List Cond), w ∈ BIG)
theorem in_NumberReader : ∀ w ∈ u_ws R_NumberReader F_NumberReader 11, w ∈ BIG := (List.forall_mem_cons.mpr ⟨List.mem_filter.mpr ⟨List.mem_append_right _ (List.mem_append_left _ (List.mem_of_getElem? (i := 121) rfl)), rfl⟩, List.forall_mem_cons.mpr ⟨List.mem_filter.mpr ⟨List.mem_append_right _ (List.mem_append_left _ (List.mem_of_getElem? (i := 123) rfl)), rfl⟩, List.forall_mem_cons.mpr ⟨List.mem_filter.mpr ⟨List.mem_append_right _ (List.mem_append_left _ (List.mem_of_getElem? (i := 125) rfl)), rfl⟩, List.forall_mem_cons.mpr ⟨List.mem_filter.mpr ⟨List.mem_append_right _ (List.mem_append_left _ (List.mem_of_getElem? (i := 127) rfl)), rfl⟩, List.forall_mem_cons.mpr ⟨List.mem_filter.mpr ⟨List.mem_append_right _ (List.mem_append_left _ (List.mem_of_getElem? (i := 129) rfl)), rfl⟩, List.forall_mem_cons.mpr ⟨List.mem_filter.mpr ⟨List.mem_append_right _ (List.mem_append_left _ (List.mem_of_getElem? (i := 131) rfl)), rfl⟩, List.forall_mem_cons.mpr ⟨List.mem_filter.mpr ⟨List.mem_append_right _ (List.mem_append_left _ (List.mem_of_getElem? (i := 133) rfl)), rfl⟩, List.forall_mem_cons.mpr ⟨List.mem_filter.mpr ⟨List.mem_append_right _ (List.mem_append_left _ (List.mem_of_getElem? (i := 135) rfl)), rfl⟩, List.forall_mem_cons.mpr ⟨List.mem_filter.mpr ⟨List.mem_append_right _ (List.mem_append_left _ (List.mem_of_getElem? (i := 137) rfl)), rfl⟩, List.forall_mem_cons.mpr ⟨List.mem_filter.mpr ⟨List.mem_append_right _ (List.mem_append_left _ (List.mem_of_getElem? (i := 139) rfl)), rfl⟩, List.forall_mem_cons.mpr ⟨List.mem_filter.mpr ⟨List.mem_append_right _ (List.mem_append_left _ (List.mem_of_getElem? (i := 141) rfl)), rfl⟩, fun _ h => absurd h List.not_mem_nil⟩⟩⟩⟩⟩⟩⟩⟩⟩⟩⟩ : ∀ w ∈ ([Cond.lays R_NumberReader R_NumberReader "begin" "I", Cond.lays R_NumberReader R_NumberReader "end" "I", Cond.lays R_NumberReader R_NumberReader "place" "I", Cond.lays R_NumberReader R_NumberReader "negative" "Z", Cond.lays R_NumberReader R_NumberReader "allDigits" "I", Cond.lays R_NumberReader R_NumberReader "fractionDigits" "I", Cond.lays R_NumberReader R_NumberReader "exponent" "I", Cond.lays R_NumberReader R_NumberReader "digits" "J", Cond.lays R_NumberReader R_NumberReader "digitsCounted" "I", Cond.lays R_NumberReader R_NumberReader "zerosBehind" "I", Cond.lays R_NumberReader R_NumberReader "percentPlaces" "I"] : List Cond), w ∈ BIG)
theorem in_Deci : ∀ w ∈ u_ws R_Deci F_Deci 12, w ∈ BIG := (List.forall_mem_cons.mpr ⟨List.mem_filter.mpr ⟨List.mem_append_right _ (List.mem_append_right _ (List.mem_append_left _ (List.mem_of_getElem? (i := 43) rfl))), rfl⟩, List.forall_mem_cons.mpr ⟨List.mem_filter.mpr ⟨List.mem_append_right _ (List.mem_append_right _ (List.mem_append_left _ (List.mem_of_getElem? (i := 45) rfl))), rfl⟩, List.forall_mem_cons.mpr ⟨List.mem_filter.mpr ⟨List.mem_append_right _ (List.mem_append_right _ (List.mem_append_left _ (List.mem_of_getElem? (i := 47) rfl))), rfl⟩, List.forall_mem_cons.mpr ⟨List.mem_filter.mpr ⟨List.mem_append_right _ (List.mem_append_right _ (List.mem_append_left _ (List.mem_of_getElem? (i := 49) rfl))), rfl⟩, List.forall_mem_cons.mpr ⟨List.mem_filter.mpr ⟨List.mem_append_right _ (List.mem_append_right _ (List.mem_append_left _ (List.mem_of_getElem? (i := 51) rfl))), rfl⟩, List.forall_mem_cons.mpr ⟨List.mem_filter.mpr ⟨List.mem_append_right _ (List.mem_append_right _ (List.mem_append_left _ (List.mem_of_getElem? (i := 53) rfl))), rfl⟩, List.forall_mem_cons.mpr ⟨List.mem_filter.mpr ⟨List.mem_append_right _ (List.mem_append_right _ (List.mem_append_left _ (List.mem_of_getElem? (i := 55) rfl))), rfl⟩, List.forall_mem_cons.mpr ⟨List.mem_filter.mpr ⟨List.mem_append_right _ (List.mem_append_right _ (List.mem_append_left _ (List.mem_of_getElem? (i := 57) rfl))), rfl⟩, List.forall_mem_cons.mpr ⟨List.mem_filter.mpr ⟨List.mem_append_right _ (List.mem_append_right _ (List.mem_append_left _ (List.mem_of_getElem? (i := 59) rfl))), rfl⟩, List.forall_mem_cons.mpr ⟨List.mem_filter.mpr ⟨List.mem_append_right _ (List.mem_append_right _ (List.mem_append_left _ (List.mem_of_getElem? (i := 61) rfl))), rfl⟩, List.forall_mem_cons.mpr ⟨List.mem_filter.mpr ⟨List.mem_append_right _ (List.mem_append_right _ (List.mem_append_left _ (List.mem_of_getElem? (i := 63) rfl))), rfl⟩, List.forall_mem_cons.mpr ⟨List.mem_filter.mpr ⟨List.mem_append_right _ (List.mem_append_right _ (List.mem_append_left _ (List.mem_of_getElem? (i := 65) rfl))), rfl⟩, fun _ h => absurd h List.not_mem_nil⟩⟩⟩⟩⟩⟩⟩⟩⟩⟩⟩⟩ : ∀ w ∈ ([Cond.laysFinal R_Deci R_Deci "typed" "LPatternedDecimals$Row;", Cond.laysFinal R_Deci R_Deci "written" "LPatternedDecimals$Row;", Cond.laysFinal R_Deci R_Deci "patternReader" "LPatternedDecimals$PatternReader;", Cond.laysFinal R_Deci R_Deci "patternWriter" "LPatternedDecimals$PatternWriter;", Cond.laysFinal R_Deci R_Deci "numberWriter" "LPatternedDecimals$NumberWriter;", Cond.laysFinal R_Deci R_Deci "numberReader" "LPatternedDecimals$NumberReader;", Cond.lays R_Deci R_Deci "pattern" "LPatternedDecimals$Pattern;", Cond.lays R_Deci R_Deci "spare" "LPatternedDecimals$Pattern;", Cond.lays R_Deci R_Deci "hasPattern" "Z", Cond.lays R_Deci R_Deci "roundingMode" "I", Cond.lays R_Deci R_Deci "readValue" "J", Cond.lays R_Deci R_Deci "readScale" "I"] : List Cond), w ∈ BIG)
theorem in_Model : ∀ w ∈ u_ws R_Model F_Model 23, w ∈ BIG := (List.forall_mem_cons.mpr ⟨List.mem_filter.mpr ⟨List.mem_append_right _ (List.mem_append_right _ (List.mem_append_right _ (List.mem_append_left _ (List.mem_of_getElem? (i := 218) rfl)))), rfl⟩, List.forall_mem_cons.mpr ⟨List.mem_filter.mpr ⟨List.mem_append_right _ (List.mem_append_right _ (List.mem_append_right _ (List.mem_append_left _ (List.mem_of_getElem? (i := 220) rfl)))), rfl⟩, List.forall_mem_cons.mpr ⟨List.mem_filter.mpr ⟨List.mem_append_right _ (List.mem_append_right _ (List.mem_append_right _ (List.mem_append_left _ (List.mem_of_getElem? (i := 222) rfl)))), rfl⟩, List.forall_mem_cons.mpr ⟨List.mem_filter.mpr ⟨List.mem_append_right _ (List.mem_append_right _ (List.mem_append_right _ (List.mem_append_left _ (List.mem_of_getElem? (i := 224) rfl)))), rfl⟩, List.forall_mem_cons.mpr ⟨List.mem_filter.mpr ⟨List.mem_append_right _ (List.mem_append_right _ (List.mem_append_right _ (List.mem_append_left _ (List.mem_of_getElem? (i := 226) rfl)))), rfl⟩, List.forall_mem_cons.mpr ⟨List.mem_filter.mpr ⟨List.mem_append_right _ (List.mem_append_right _ (List.mem_append_right _ (List.mem_append_left _ (List.mem_of_getElem? (i := 228) rfl)))), rfl⟩, List.forall_mem_cons.mpr ⟨List.mem_filter.mpr ⟨List.mem_append_right _ (List.mem_append_right _ (List.mem_append_right _ (List.mem_append_left _ (List.mem_of_getElem? (i := 230) rfl)))), rfl⟩, List.forall_mem_cons.mpr ⟨List.mem_filter.mpr ⟨List.mem_append_right _ (List.mem_append_right _ (List.mem_append_right _ (List.mem_append_left _ (List.mem_of_getElem? (i := 232) rfl)))), rfl⟩, List.forall_mem_cons.mpr ⟨List.mem_filter.mpr ⟨List.mem_append_right _ (List.mem_append_right _ (List.mem_append_right _ (List.mem_append_left _ (List.mem_of_getElem? (i := 234) rfl)))), rfl⟩, List.forall_mem_cons.mpr ⟨List.mem_filter.mpr ⟨List.mem_append_right _ (List.mem_append_right _ (List.mem_append_right _ (List.mem_append_left _ (List.mem_of_getElem? (i := 236) rfl)))), rfl⟩, List.forall_mem_cons.mpr ⟨List.mem_filter.mpr ⟨List.mem_append_right _ (List.mem_append_right _ (List.mem_append_right _ (List.mem_append_left _ (List.mem_of_getElem? (i := 238) rfl)))), rfl⟩, List.forall_mem_cons.mpr ⟨List.mem_filter.mpr ⟨List.mem_append_right _ (List.mem_append_right _ (List.mem_append_right _ (List.mem_append_right _ (List.mem_of_getElem? (i := 0) rfl)))), rfl⟩, List.forall_mem_cons.mpr ⟨List.mem_filter.mpr ⟨List.mem_append_right _ (List.mem_append_right _ (List.mem_append_right _ (List.mem_append_right _ (List.mem_of_getElem? (i := 2) rfl)))), rfl⟩, List.forall_mem_cons.mpr ⟨List.mem_filter.mpr ⟨List.mem_append_right _ (List.mem_append_right _ (List.mem_append_right _ (List.mem_append_right _ (List.mem_of_getElem? (i := 4) rfl)))), rfl⟩, List.forall_mem_cons.mpr ⟨List.mem_filter.mpr ⟨List.mem_append_right _ (List.mem_append_right _ (List.mem_append_right _ (List.mem_append_right _ (List.mem_of_getElem? (i := 6) rfl)))), rfl⟩, List.forall_mem_cons.mpr ⟨List.mem_filter.mpr ⟨List.mem_append_right _ (List.mem_append_right _ (List.mem_append_right _ (List.mem_append_right _ (List.mem_of_getElem? (i := 8) rfl)))), rfl⟩, List.forall_mem_cons.mpr ⟨List.mem_filter.mpr ⟨List.mem_append_right _ (List.mem_append_right _ (List.mem_append_right _ (List.mem_append_right _ (List.mem_of_getElem? (i := 10) rfl)))), rfl⟩, List.forall_mem_cons.mpr ⟨List.mem_filter.mpr ⟨List.mem_append_right _ (List.mem_append_right _ (List.mem_append_right _ (List.mem_append_right _ (List.mem_of_getElem? (i := 12) rfl)))), rfl⟩, List.forall_mem_cons.mpr ⟨List.mem_filter.mpr ⟨List.mem_append_right _ (List.mem_append_right _ (List.mem_append_right _ (List.mem_append_right _ (List.mem_of_getElem? (i := 14) rfl)))), rfl⟩, List.forall_mem_cons.mpr ⟨List.mem_filter.mpr ⟨List.mem_append_right _ (List.mem_append_right _ (List.mem_append_right _ (List.mem_append_right _ (List.mem_of_getElem? (i := 16) rfl)))), rfl⟩, List.forall_mem_cons.mpr ⟨List.mem_filter.mpr ⟨List.mem_append_right _ (List.mem_append_right _ (List.mem_append_right _ (List.mem_append_right _ (List.mem_of_getElem? (i := 18) rfl)))), rfl⟩, List.forall_mem_cons.mpr ⟨List.mem_filter.mpr ⟨List.mem_append_right _ (List.mem_append_right _ (List.mem_append_right _ (List.mem_append_right _ (List.mem_of_getElem? (i := 20) rfl)))), rfl⟩, List.forall_mem_cons.mpr ⟨List.mem_filter.mpr ⟨List.mem_append_right _ (List.mem_append_right _ (List.mem_append_right _ (List.mem_append_right _ (List.mem_of_getElem? (i := 22) rfl)))), rfl⟩, fun _ h => absurd h List.not_mem_nil⟩⟩⟩⟩⟩⟩⟩⟩⟩⟩⟩⟩⟩⟩⟩⟩⟩⟩⟩⟩⟩⟩⟩ : ∀ w ∈ ([Cond.lays R_Model R_Model "text" "[C", Cond.lays R_Model R_Model "size" "I", Cond.lays R_Model R_Model "written" "[C", Cond.lays R_Model R_Model "end" "I", Cond.lays R_Model R_Model "how" "I", Cond.lays R_Model R_Model "there" "Z", Cond.lays R_Model R_Model "element" "[I", Cond.lays R_Model R_Model "elements" "[I", Cond.lays R_Model R_Model "kept" "[I", Cond.lays R_Model R_Model "at" "I", Cond.lays R_Model R_Model "wrong" "I", Cond.lays R_Model R_Model "open" "Z", Cond.lays R_Model R_Model "keeping" "Z", Cond.lays R_Model R_Model "digit" "[I", Cond.lays R_Model R_Model "digits" "I", Cond.lays R_Model R_Model "point" "I", Cond.lays R_Model R_Model "formatted" "Z", Cond.lays R_Model R_Model "bounds" "[I", Cond.lays R_Model R_Model "read" "J", Cond.lays R_Model R_Model "readScale" "I", Cond.lays R_Model R_Model "newRead" "J", Cond.lays R_Model R_Model "newScale" "I", Cond.lays R_Model R_Model "large" "Z"] : List Cond), w ∈ BIG)
end
section
-- checks of the functions, and what they give
theorem x_chk {α : Type} {c : Prop} [Decidable c] {x : Option α} {o : α} (h : (if c then x else none) = some o) : c ∧ x = some o := by
  by_cases hc : c
  · rw [if_pos hc] at h; exact ⟨hc, h⟩
  · rw [if_neg hc] at h; cases h
theorem x_bnd {α β : Type} {x : Option α} {f : α → Option β} {o : β} (h : x.bind f = some o) : ∃ a, x = some a ∧ f a = some o := by
  cases x with
  | none => cases h
  | some a => exact ⟨a, rfl, h⟩
theorem x_zn {x : Int32} (h : x = 0 ∨ x = 1) : narrow .boolean (.int x) = .int x := by
  rcases h with rfl | rfl <;> rfl
theorem x_zf {x : Int32} (h : x = 0 ∨ x = 1) : fits .boolean (.int x) = true := by
  rcases h with rfl | rfl <;> rfl
abbrev ix (i : Int32) (n : Nat) : Prop := ¬ (i < 0 ∨ n ≤ i.toNatClampNeg)
abbrev i2c (x : Int32) : Int32 := (x.toUInt32 % 65536).toInt32
def pw (k : Nat) : Int64 := Int64.ofNat (10 ^ k)
def FU : Nat := 1000
theorem nw_warm {w : Cond} {s U : State} (h : isNest w = true) (hW : s.WarmedH U.vm) (hz : va_Nw w s) : va_Nw w U := by
  cases w <;> first | exact va_Nw.warmF hW hz | exact va_Nw.warmM hW hz | cases h
theorem nw_same {w : Cond} {s U : State} (h : isNest w = true) (hW : s.vm = U.vm) (hz : va_Nw w s) : va_Nw w U := by
  cases w <;> first | exact va_Nw.same rfl hW hz | cases h
theorem nests_ok : ∀ w ∈ NESTS, isNest w = true := fun w hw => (List.mem_filter.mp hw).2
def xG (D : va_G) (cC cI : ClassId) (U : State) : Prop := va_K D classes [(cC, .char), (cI, .int)] U ∧ ∀ w ∈ NESTS, va_Nw w U
def xZ (A : Nat → Prop) (U : State) (H : Heap) : Prop := ∃ t : Nat, va_Z "PatternedDecimals" "POWERS" "[J" (.ref t) A U H ∧ va_T .long t 19 (fun j => .long (pw j)) A U H
def xPre (D : va_G) (cC cI : ClassId) (ws : va_W) (sz : Nat) (U : State) : Prop := U.heap.size = sz ∧ va_P D classes ws U.heap ∧ va_D (fun _ => True) ws ∧ xG D cC cI U ∧ xZ (va_A ws sz) U U.heap
def xCX (p : Program) (s : State) (m : MethodId) (args : Array Value) (meth : Method) (c : Code) (A : Nat → Prop) (D : va_G) (cC cI : ClassId) (cc : ByteArray) (nL : Nat) (own : String) (ret : Option FieldType) : Prop :=
  p.tables.exec = Jvm.exec ∧ c.code = cc ∧ c.maxLocals = nL ∧ s.vm.findClass own = some m.cls ∧ (∀ w ∈ BIG, w.before args s = true) ∧ xG D cC cI s ∧ xZ A s s.heap ∧ (∀ q, s.heap.size ≤ q → A q) ∧ meth.sig.returnType = ret ∧ meth.locks = false
theorem xG_moved {D : va_G} {cC cI : ClassId} {s U : State} (hW : s.WarmedH U.vm) (h : xG D cC cI s) : xG D cC cI U := ⟨va_K.moved hW.alike h.1, fun w hw => nw_warm (nests_ok w hw) hW (h.2 w hw)⟩
theorem xZ_moved {A B : Nat → Prop} {s U : State} {H : Heap} {locs : List Loc} (hZ : xZ A s s.heap) (hS : va_S A s.heap H locs) (hB : ∀ q, B q → A q) (hU : U.heap = H) (hW : s.WarmedH U.vm) : xZ B U U.heap := by
  obtain ⟨t, h1, h2⟩ := hZ
  exact ⟨t, by rw [hU]; exact ((h1.kept hS.2.1).narrow hB).moved hW.alike, by rw [hU]; exact ((h2.kept hS.2.1).narrow hB).moved hW.alike⟩
theorem x_sub {D : va_G} {cl : List vw_C} {ws wc : va_W} {H : Heap} (hP : va_P D cl ws H) (isC : List Nat) (hC : isC.map (fun i => ws[i]?) = wc.map some) : va_P D cl wc H := by
  intro k q hk
  have h1 : (isC.map (fun i => ws[i]?))[k]? = some (some q) := by rw [hC, List.getElem?_map, hk]; rfl
  rw [List.getElem?_map] at h1
  cases hi : isC[k]? with
  | none => rw [hi] at h1; cases h1
  | some i => rw [hi] at h1; exact hP i q (Option.some.inj h1)
theorem x_blind {D : va_G} {cC cI : ClassId} {ws : va_W} {sz : Nat} {av : List Value} : FrameBlind (va_Pc av (xPre D cC cI ws sz)) := fun a U g mk q => by
  obtain ⟨q0, q1, qP, qD, ⟨qK, qN⟩, t, z1, z2⟩ := q
  exact ⟨q0, q1, qP, qD, ⟨va_K.moved (u := U) (U := U.calling g mk a) (Vm.Alike.refl U.vm) qK, fun w hw => nw_same (s := U) (U := U.calling g mk a) (nests_ok w hw) rfl (qN w hw)⟩, t, va_Z.moved (u := U) (U := U.calling g mk a) (Vm.Alike.refl U.vm) z1, va_T.moved (u := U) (U := U.calling g mk a) (Vm.Alike.refl U.vm) z2⟩
theorem big_good : ∀ w ∈ BIG, (w.onTables && w.keeps) = true ∨ ∃ ty, w = Cond.arrayClass ty := fun w hw => good_of_word (List.mem_filter.mp hw).2
theorem x_good {y : MethodName} {bytes : ByteArray} {maxL : Nat} {ret : Option FieldType} (h : Cond.code y bytes maxL ret ∈ BIG) : GoodIn BIG (Cond.code y bytes maxL ret :: BIG) := by
  intro w hw
  rcases List.mem_cons.mp hw with rfl | hw
  · exact ⟨h, big_good _ h⟩
  · exact ⟨hw, big_good _ hw⟩
theorem x_cx {p : Program} {l : Launch} {y : MethodName} {cc : ByteArray} {maxL : Nat} {ret : Option FieldType} {rm : Room} {e : Env} {s : State} {m : MethodId} {args : Array Value} {below : List Frame} {meth : Method} {c : Code} {s₁ : State} {D : va_G} {cC cI : ClassId} {ws : va_W}
    (B : BodyLoose p l y (headSpec (Cond.code y cc maxL ret :: BIG) rm) cc maxL ret e s m args below meth c s₁) (hml : c.maxLocals = maxL) (hG : xG D cC cI s) (hZ : xZ (va_A ws s.heap.size) s s.heap) : xCX p s m args meth c (va_A ws s.heap.size) D cC cI cc maxL y.cls ret :=
  ⟨B.exec, B.bytes, hml, findClass_of_methodNamed B.named, fun w hw => atoms_spec (ws := Cond.code y cc maxL ret :: BIG) B.pre w (List.mem_cons_of_mem _ hw), hG, hZ, fun q h => Or.inr h, B.returns, B.notSynchronized⟩
section XRUN
variable {p : Program} {l : Launch} {e : Env} {R : Room} {s : State} {m : MethodId} {args : Array Value} {below : List Frame} {meth : Method} {c : Code} {H : Heap} {locs : List Loc} {Q : State → Prop} {A : Nat → Prop} {D : va_G} {cC cI : ClassId} {cc : ByteArray} {nL : Nat} {own : String} {rt ret : Option FieldType} {ws wc : va_W} {pc : Nat} {ls : Array Slot} {st0 rest As : List Value} {b : Nat}
variable {y : MethodName} {bytes : ByteArray} {maxL index : Nat} {rm : Room} {Qc : Array Value → State → Outcome → State → Prop} {host : String}
theorem x_pre (X : xCX p s m args meth c A D cC cI cc nL own rt) (hP : va_P D classes ws H) (hD : va_D A ws) (hS : va_S A s.heap H locs) (isC : List Nat) (hC : isC.map (fun i => ws[i]?) = wc.map some) (hnC : va_nd isC = true) : ∀ U : State, U.heap = H → s.WarmedH U.vm → xPre D cC cI wc H.size U := by
  obtain ⟨hx, hb, hml, hown, htB, hG, hZ, hA, hr, hlocks⟩ := X
  intro U hU hW
  exact ⟨by rw [hU], by rw [hU]; exact x_sub hP isC hC, (hD.sub isC hnC hC).weaken (fun _ _ _ _ => trivial), xG_moved hW hG, xZ_moved hZ hS (va_free hD hS hA isC hC) hU hW⟩
theorem x_runVN {C : String} {T : u_T} {N ci : Nat} {fs : List Value} (X : xCX p s m args meth c A D cC cI cc nL own rt) (hM : Met l y (Cond.code y bytes maxL ret :: BIG) rm (va_Pc (.ref b :: As) (xPre D cC cI wc H.size)) Qc 0 0 (va_A wc H.size)) (hcode : Cond.code y bytes maxL ret ∈ BIG) (n : Nat)
    (hl : va_Nw (.methodLinkNest own index y host) s) (hins : (Cond.instanceMethod y).before args s = true) (hsel : (Cond.selects C y y).before args s = true) (hini : (Cond.initialized y.cls).before args s = true)
    (hd : y.cls ≠ "java/lang/invoke/MethodHandle" ∧ y.cls ≠ "java/lang/invoke/VarHandle" ∧ (parseMethodDescriptor y.desc).map (fun d => d.parameters.length) = some n) (hR : rm.frames + 1 ≤ R.frames ∧ 8 + (maxL + 11) + rm.locals ≤ R.locals)
    (q0 : Nat) (he : ws[q0]? = some (b, .inr (ci, fs))) (hc : classes[ci]? = some (C, T, N)) (hP : va_P D classes ws H) (hD : va_D A ws) (hS : va_S A s.heap H locs) (isC : List Nat) (hC : isC.map (fun i => ws[i]?) = wc.map some) (hnC : va_nd isC = true)
    (hrc : rm.cells = 0) (hrs : rm.slots = 0) (hsize : ls.size = nL) (hn : As.length = n) (hst : st0 = As.reverse ++ .ref b :: rest) (hroom : (rest.map fun v => v.category).sum ≤ 8) (hdg : decode cc pc = .ok (.invokevirtual index, 3)) :
    va_Run p l e R s m args below meth c H locs 0 0 0 0 (F0 m pc ls st0) rest (Qc (Value.ref b :: As).toArray) (va_A wc H.size) := by
  have hpre := x_pre X hP hD hS isC hC hnC
  obtain ⟨hx, hb, hml, hown, htB, hG, hZ, hA, hr, hlocks⟩ := X
  exact va_runVN (C := C) ⟨hx, hb, hml, hown, htB⟩ hM ⟨va_cnB n htB (x_good hcode) rfl hrc hrs hl hini hd hR, hins, hsel⟩ ⟨x_blind, va_recv hG.1 hP hc he, fun U hU hW => ⟨rfl, hpre U hU hW⟩⟩ rfl hn hsize hst (lv_room hroom) hdg ⟨Nat.zero_le _, Nat.zero_le _⟩
theorem x_runV {C : String} {T : u_T} {N ci : Nat} {fs : List Value} (X : xCX p s m args meth c A D cC cI cc nL own rt) (hM : Met l y (Cond.code y bytes maxL ret :: BIG) rm (va_Pc (.ref b :: As) (xPre D cC cI wc H.size)) Qc 0 0 (va_A wc H.size)) (hcode : Cond.code y bytes maxL ret ∈ BIG) (n : Nat)
    (hl : (Cond.methodLink own index y).before args s = true) (hins : (Cond.instanceMethod y).before args s = true) (hsel : (Cond.selects C y y).before args s = true) (hini : (Cond.initialized y.cls).before args s = true)
    (hd : y.cls ≠ "java/lang/invoke/MethodHandle" ∧ y.cls ≠ "java/lang/invoke/VarHandle" ∧ (parseMethodDescriptor y.desc).map (fun d => d.parameters.length) = some n) (hR : rm.frames + 1 ≤ R.frames ∧ 8 + (maxL + 11) + rm.locals ≤ R.locals)
    (q0 : Nat) (he : ws[q0]? = some (b, .inr (ci, fs))) (hc : classes[ci]? = some (C, T, N)) (hP : va_P D classes ws H) (hD : va_D A ws) (hS : va_S A s.heap H locs) (isC : List Nat) (hC : isC.map (fun i => ws[i]?) = wc.map some) (hnC : va_nd isC = true)
    (hrc : rm.cells = 0) (hrs : rm.slots = 0) (hsize : ls.size = nL) (hn : As.length = n) (hst : st0 = As.reverse ++ .ref b :: rest) (hroom : (rest.map fun v => v.category).sum ≤ 8) (hdg : decode cc pc = .ok (.invokevirtual index, 3)) :
    va_Run p l e R s m args below meth c H locs 0 0 0 0 (F0 m pc ls st0) rest (Qc (Value.ref b :: As).toArray) (va_A wc H.size) := by
  have hpre := x_pre X hP hD hS isC hC hnC
  obtain ⟨hx, hb, hml, hown, htB, hG, hZ, hA, hr, hlocks⟩ := X
  exact va_runV (C := C) ⟨hx, hb, hml, hown, htB⟩ hM ⟨callB_of n htB (x_good hcode) rfl hrc hrs hini hl hd hR, hins, hsel⟩ ⟨x_blind, va_recv hG.1 hP hc he, fun U hU hW => ⟨rfl, hpre U hU hW⟩⟩ rfl hn hsize hst (lv_room hroom) hdg ⟨Nat.zero_le _, Nat.zero_le _⟩
theorem x_runS (X : xCX p s m args meth c A D cC cI cc nL own rt) (hM : Met l y (Cond.code y bytes maxL ret :: BIG) rm (va_Pc As (xPre D cC cI wc H.size)) Qc 0 0 (va_A wc H.size)) (hcode : Cond.code y bytes maxL ret ∈ BIG) (n : Nat)
    (hl : (Cond.methodLink own index y).before args s = true) (hstt : (Cond.static y).before args s = true) (hini : (Cond.initialized y.cls).before args s = true)
    (hd : y.cls ≠ "java/lang/invoke/MethodHandle" ∧ y.cls ≠ "java/lang/invoke/VarHandle" ∧ (parseMethodDescriptor y.desc).map (fun d => d.parameters.length) = some n) (hR : rm.frames + 1 ≤ R.frames ∧ 8 + (maxL + 11) + rm.locals ≤ R.locals)
    (hP : va_P D classes ws H) (hD : va_D A ws) (hS : va_S A s.heap H locs) (isC : List Nat) (hC : isC.map (fun i => ws[i]?) = wc.map some) (hnC : va_nd isC = true)
    (hrc : rm.cells = 0) (hrs : rm.slots = 0) (hsize : ls.size = nL) (hn : As.length = n) (hst : st0 = As.reverse ++ rest) (hroom : (rest.map fun v => v.category).sum ≤ 8) (hdg : decode cc pc = .ok (.invokestatic index, 3)) :
    va_Run p l e R s m args below meth c H locs 0 0 0 0 (F0 m pc ls st0) rest (Qc As.toArray) (va_A wc H.size) := by
  have hpre := x_pre X hP hD hS isC hC hnC
  obtain ⟨hx, hb, hml, hown, htB, hG, hZ, hA, hr, hlocks⟩ := X
  exact va_runS ⟨hx, hb, hml, hown, htB⟩ hM ⟨callB_of n htB (x_good hcode) rfl hrc hrs hini hl hd hR, hstt⟩ ⟨x_blind, fun U hU hW => ⟨rfl, hpre U hU hW⟩⟩ rfl hn hsize hst (lv_room hroom) hdg ⟨Nat.zero_le _, Nat.zero_le _⟩
theorem x_runSN (X : xCX p s m args meth c A D cC cI cc nL own rt) (hM : Met l y (Cond.code y bytes maxL ret :: BIG) rm (va_Pc As (xPre D cC cI wc H.size)) Qc 0 0 (va_A wc H.size)) (hcode : Cond.code y bytes maxL ret ∈ BIG) (n : Nat)
    (hl : va_Nw (.methodLinkNest own index y host) s) (hstt : (Cond.static y).before args s = true) (hini : (Cond.initialized y.cls).before args s = true)
    (hd : y.cls ≠ "java/lang/invoke/MethodHandle" ∧ y.cls ≠ "java/lang/invoke/VarHandle" ∧ (parseMethodDescriptor y.desc).map (fun d => d.parameters.length) = some n) (hR : rm.frames + 1 ≤ R.frames ∧ 8 + (maxL + 11) + rm.locals ≤ R.locals)
    (hP : va_P D classes ws H) (hD : va_D A ws) (hS : va_S A s.heap H locs) (isC : List Nat) (hC : isC.map (fun i => ws[i]?) = wc.map some) (hnC : va_nd isC = true)
    (hrc : rm.cells = 0) (hrs : rm.slots = 0) (hsize : ls.size = nL) (hn : As.length = n) (hst : st0 = As.reverse ++ rest) (hroom : (rest.map fun v => v.category).sum ≤ 8) (hdg : decode cc pc = .ok (.invokestatic index, 3)) :
    va_Run p l e R s m args below meth c H locs 0 0 0 0 (F0 m pc ls st0) rest (Qc As.toArray) (va_A wc H.size) := by
  have hpre := x_pre X hP hD hS isC hC hnC
  obtain ⟨hx, hb, hml, hown, htB, hG, hZ, hA, hr, hlocks⟩ := X
  exact va_runSN ⟨hx, hb, hml, hown, htB⟩ hM ⟨va_cnB n htB (x_good hcode) rfl hrc hrs hl hini hd hR, hstt, trivial⟩ ⟨x_blind, fun U hU hW => ⟨rfl, hpre U hU hW⟩⟩ rfl hn hsize hst (lv_room hroom) hdg ⟨Nat.zero_le _, Nat.zero_le _⟩
theorem x_join {wr w1 ws2 : va_W} {H1 : Heap} (hP : va_P D classes ws H) (hD : va_D A ws) (hS : va_S A s.heap H locs) (hA : ∀ q, s.heap.size ≤ q → A q) (isC isR perm : List Nat) (hC : isC.map (fun i => ws[i]?) = wc.map some) (hR : isR.map (fun i => ws[i]?) = wr.map some) (hn : va_nd isR = true) (hdis : ∀ i ∈ isR, i ∉ isC) (hp : perm.map (fun i => (wr ++ w1)[i]?) = ws2.map some) (hpn : va_nd perm = true)
    (hk : ∀ q : Nat, q < H.size → ¬ va_A wc H.size q → H1[q]? = H[q]?) (hP1 : va_P D classes w1 H1) (hD1 : va_D (va_A wc H.size) w1) : va_P D classes ws2 H1 ∧ va_D A ws2 := by
  obtain ⟨h1, h2⟩ := va_join hP hD isC isR hC hR hn hdis hk (va_free hD hS hA isC hC) hP1 hD1
  exact ⟨x_sub h1 perm hp, h2.sub perm hpn hp⟩
theorem x_calli {a : Array Value} {r0 : Int32} {w1 ws2 : va_W} (hr : va_Run p l e R s m args below meth c H locs 0 0 0 0 (F0 m pc ls st0) rest (va_Qi (fun r (_ : Unit) => r = r0) (fun _ t => va_P D classes w1 t.heap ∧ va_D (va_A wc H.size) w1) (va_A wc H.size) a) (va_A wc H.size))
    (hP : va_P D classes ws H) (hD : va_D A ws) (hS : va_S A s.heap H locs) (hA : ∀ q, s.heap.size ≤ q → A q) (isC isR perm : List Nat) (hC : isC.map (fun i => ws[i]?) = wc.map some) (hR : isR.map (fun i => ws[i]?) = (isR.filterMap (fun i => ws[i]?)).map some) (hn : va_nd isR = true) (hdis : ∀ i ∈ isR, i ∉ isC) (hp : perm.map (fun i => (isR.filterMap (fun i => ws[i]?) ++ w1)[i]?) = ws2.map some) (hpn : va_nd perm = true)
    (kk : ∀ (H1 : Heap) (locs1 : List Loc), va_P D classes ws2 H1 → va_D A ws2 → va_S A s.heap H1 locs1 → W p l e R s m args below meth c H1 locs1 0 0 Q (F0 m (pc + 3) ls (.int r0 :: rest))) : W p l e R s m args below meth c H locs 0 0 Q (F0 m pc ls st0) := by
  have hF := va_free (wc := wc) hD hS hA isC hC
  refine va_calli hr hS (fun q _ h => hF q h) hF (fun r u t H1 locs1 ht hvm hw hB hz hk hS1 => ?_)
  obtain ⟨hP1, hD1⟩ := hB
  rw [ht] at hP1
  obtain ⟨g1, g2⟩ := x_join hP hD hS hA isC isR perm hC hR hn hdis hp hpn hk hP1 hD1
  subst hw
  exact kk H1 locs1 g1 g2 hS1
theorem x_calll {a : Array Value} {r0 : Int64} {w1 ws2 : va_W} (hr : va_Run p l e R s m args below meth c H locs 0 0 0 0 (F0 m pc ls st0) rest (va_Ql (fun r (_ : Unit) => r = r0) (fun _ t => va_P D classes w1 t.heap ∧ va_D (va_A wc H.size) w1) (va_A wc H.size) a) (va_A wc H.size))
    (hP : va_P D classes ws H) (hD : va_D A ws) (hS : va_S A s.heap H locs) (hA : ∀ q, s.heap.size ≤ q → A q) (isC isR perm : List Nat) (hC : isC.map (fun i => ws[i]?) = wc.map some) (hR : isR.map (fun i => ws[i]?) = (isR.filterMap (fun i => ws[i]?)).map some) (hn : va_nd isR = true) (hdis : ∀ i ∈ isR, i ∉ isC) (hp : perm.map (fun i => (isR.filterMap (fun i => ws[i]?) ++ w1)[i]?) = ws2.map some) (hpn : va_nd perm = true)
    (kk : ∀ (H1 : Heap) (locs1 : List Loc), va_P D classes ws2 H1 → va_D A ws2 → va_S A s.heap H1 locs1 → W p l e R s m args below meth c H1 locs1 0 0 Q (F0 m (pc + 3) ls (.long r0 :: rest))) : W p l e R s m args below meth c H locs 0 0 Q (F0 m pc ls st0) := by
  have hF := va_free (wc := wc) hD hS hA isC hC
  refine va_calll hr hS (fun q _ h => hF q h) hF (fun r u t H1 locs1 ht hvm hw hB hz hk hS1 => ?_)
  obtain ⟨hP1, hD1⟩ := hB
  rw [ht] at hP1
  obtain ⟨g1, g2⟩ := x_join hP hD hS hA isC isR perm hC hR hn hdis hp hpn hk hP1 hD1
  subst hw
  exact kk H1 locs1 g1 g2 hS1
theorem x_callv {a : Array Value} {w1 ws2 : va_W} (hr : va_Run p l e R s m args below meth c H locs 0 0 0 0 (F0 m pc ls st0) rest (va_Qv (fun _ : Unit => True) (fun _ t => va_P D classes w1 t.heap ∧ va_D (va_A wc H.size) w1) (va_A wc H.size) a) (va_A wc H.size))
    (hP : va_P D classes ws H) (hD : va_D A ws) (hS : va_S A s.heap H locs) (hA : ∀ q, s.heap.size ≤ q → A q) (isC isR perm : List Nat) (hC : isC.map (fun i => ws[i]?) = wc.map some) (hR : isR.map (fun i => ws[i]?) = (isR.filterMap (fun i => ws[i]?)).map some) (hn : va_nd isR = true) (hdis : ∀ i ∈ isR, i ∉ isC) (hp : perm.map (fun i => (isR.filterMap (fun i => ws[i]?) ++ w1)[i]?) = ws2.map some) (hpn : va_nd perm = true)
    (kk : ∀ (H1 : Heap) (locs1 : List Loc), va_P D classes ws2 H1 → va_D A ws2 → va_S A s.heap H1 locs1 → W p l e R s m args below meth c H1 locs1 0 0 Q (F0 m (pc + 3) ls rest)) : W p l e R s m args below meth c H locs 0 0 Q (F0 m pc ls st0) := by
  have hF := va_free (wc := wc) hD hS hA isC hC
  refine va_callv hr hS (fun q _ h => hF q h) hF (fun u t H1 locs1 ht hvm hw hB hz hk hS1 => ?_)
  obtain ⟨hP1, hD1⟩ := hB
  rw [ht] at hP1
  obtain ⟨g1, g2⟩ := x_join hP hD hS hA isC isR perm hC hR hn hdis hp hpn hk hP1 hD1
  exact kk H1 locs1 g1 g2 hS1
end XRUN
end
section
abbrev wd_Row_size (cC cI : ClassId) (a0_0 a0_1 : Nat) (v0 : T_Row) : va_W := [(a0_0, .inr (0, [.ref a0_1, .int v0.2])), (a0_1, .inl (cC, 120, .inl v0.1))]
abbrev O_Row_size : Type := Int32
abbrev q_Row_size (D : va_G) (cC cI : ClassId) (a0_0 a0_1 : Nat) (v0 : T_Row) (out : O_Row_size) (A : Nat → Prop) : Array Value → State → Outcome → State → Prop := va_Qi (fun r (_ : Unit) => r = out) (fun _ t => va_P D classes (wd_Row_size cC cI a0_0 a0_1 v0) t.heap ∧ va_D A (wd_Row_size cC cI a0_0 a0_1 v0)) A
abbrev rm_Row_size : Room := { frames := 0, cells := 0, slots := 0, locals := 0 }
def f_Row_size (v0 : T_Row) : Option O_Row_size := some v0.2
set_option maxHeartbeats 4000000 in
set_option maxRecDepth 100000 in
theorem w_Row_size {p : Program} {l : Launch} {e : Env} {s : State} {m : MethodId} {args : Array Value} {below : List Frame} {meth : Method} {c : Code} {A : Nat → Prop} {D : va_G} {cC cI : ClassId} {a0_0 a0_1 : Nat} {v0 : T_Row} (X : xCX p s m args meth c A D cC cI b_Row_size 1 R_Row (some .int)) {out : O_Row_size}  {ls : Array Slot} {H : Heap} {locs : List Loc} (h : f_Row_size v0 = some out) (hl : lv_has ls 1 [(0, .ref a0_0)]) (hP : va_P D classes (wd_Row_size cC cI a0_0 a0_1 v0) H) (hD : va_D A (wd_Row_size cC cI a0_0 a0_1 v0)) (hS : va_S A s.heap H locs) : W p l e rm_Row_size s m args below meth c H locs 0 0 (MQ below (q_Row_size D cC cI a0_0 a0_1 v0 out A) args s 0 0 A) (F0 m 0 ls []) := by
  obtain ⟨hx, hb, hml, hown, htB, ⟨hK, hN⟩, hZ, hA, hr, hlocks⟩ := id X
  refine lv_aload_n hx hb d_Row_size_0 rfl (lv_at hl 0 rfl) ?_
  refine va_get (D := D) (ci := 0) (v := .int v0.2) (C := R_Row) (T := F_Row) (N := 2) hx hb htB in_Row hown hK hP 0 rfl rfl 1 (by decide) (htB _ b_0) (fun _ h9 => h9) rfl d_Row_size_1 ?_
  obtain rfl := Option.some.inj h
  exact W.iret (v := v0.2) hx hb hr (fun t ht hW => ⟨⟨v0.2, (), rfl, rfl, by rw [ht]; exact hP, hD⟩, hS.F ht⟩) hS.2.2 d_Row_size_4 hlocks

set_option maxHeartbeats 4000000 in
set_option maxRecDepth 100000 in
theorem c_Row_size (l : Launch) (D : va_G) (cC cI : ClassId) (sz : Nat) (a0_0 a0_1 : Nat) (v0 : T_Row) (out : O_Row_size) (h : f_Row_size v0 = some out) : Met l y_Row_size (.code y_Row_size b_Row_size 1 (some .int) :: BIG) rm_Row_size (va_Pc [.ref a0_0] (xPre D cC cI (wd_Row_size cC cI a0_0 a0_1 v0) sz)) (q_Row_size D cC cI a0_0 a0_1 v0 out (va_A (wd_Row_size cC cI a0_0 a0_1 v0) sz)) 0 0 (va_A (wd_Row_size cC cI a0_0 a0_1 v0) sz) := by
  refine Met.ofW (cc := b_Row_size) (maxL := 1) (ret := (some .int)) (by decide) rfl ?_
  intro p e s m args below meth c s₁ B hml hv
  obtain ⟨rfl, rfl, hP, hD0, hG, hZ⟩ := hv
  have hl := lv_entry [.ref a0_0] (n := 1) (Nat.le_of_ble_eq_true rfl)
  rw [lg_entry_eq]
  exact w_Row_size (x_cx B hml hG hZ) h hl hP hD0.self va_S.rf

abbrev wd_Row_at (cC cI : ClassId) (a0_0 a0_1 : Nat) (v0 : T_Row) : va_W := [(a0_0, .inr (0, [.ref a0_1, .int v0.2])), (a0_1, .inl (cC, 120, .inl v0.1))]
abbrev O_Row_at : Type := Int32
abbrev q_Row_at (D : va_G) (cC cI : ClassId) (a0_0 a0_1 : Nat) (v0 : T_Row) (out : O_Row_at) (A : Nat → Prop) : Array Value → State → Outcome → State → Prop := va_Qi (fun r (_ : Unit) => r = out) (fun _ t => va_P D classes (wd_Row_at cC cI a0_0 a0_1 v0) t.heap ∧ va_D A (wd_Row_at cC cI a0_0 a0_1 v0)) A
abbrev rm_Row_at : Room := { frames := 0, cells := 0, slots := 0, locals := 0 }
def J_Row_at_21 (p : Program) (l : Launch) (e : Env) (s : State) (m : MethodId) (args : Array Value) (below : List Frame) (meth : Method) (c : Code) (A : Nat → Prop) (D : va_G) (cC cI : ClassId) (a0_0 a0_1 : Nat) (v0 : T_Row) (out : O_Row_at) (k : Option O_Row_at) : Prop := ∀  (ls : Array Slot) (H : Heap) (locs : List Loc), k  = some out → lv_has ls 2 [] → va_P D classes (wd_Row_at cC cI a0_0 a0_1 v0) H → va_D A (wd_Row_at cC cI a0_0 a0_1 v0) → va_S A s.heap H locs → W p l e rm_Row_at s m args below meth c H locs 0 0 (MQ below (q_Row_at D cC cI a0_0 a0_1 v0 out A) args s 0 0 A) (F0 m 21 ls [])
def J_Row_at_22 (p : Program) (l : Launch) (e : Env) (s : State) (m : MethodId) (args : Array Value) (below : List Frame) (meth : Method) (c : Code) (A : Nat → Prop) (D : va_G) (cC cI : ClassId) (a0_0 a0_1 : Nat) (v0 : T_Row) (out : O_Row_at) (k : Int32 → Option O_Row_at) : Prop := ∀ (s0 : Int32) (ls : Array Slot) (H : Heap) (locs : List Loc), k s0 = some out → lv_has ls 2 [] → va_P D classes (wd_Row_at cC cI a0_0 a0_1 v0) H → va_D A (wd_Row_at cC cI a0_0 a0_1 v0) → va_S A s.heap H locs → W p l e rm_Row_at s m args below meth c H locs 0 0 (MQ below (q_Row_at D cC cI a0_0 a0_1 v0 out A) args s 0 0 A) (F0 m 22 ls [.int s0])
def f_Row_at_22 (v0 : T_Row) (s0 : Int32) : Option O_Row_at := some s0
set_option maxHeartbeats 4000000 in
set_option maxRecDepth 100000 in
theorem w_Row_at_22 {p : Program} {l : Launch} {e : Env} {s : State} {m : MethodId} {args : Array Value} {below : List Frame} {meth : Method} {c : Code} {A : Nat → Prop} {D : va_G} {cC cI : ClassId} {a0_0 a0_1 : Nat} {v0 : T_Row} (X : xCX p s m args meth c A D cC cI b_Row_at 2 R_Row (some .int)) {out : O_Row_at}   : J_Row_at_22 p l e s m args below meth c A D cC cI a0_0 a0_1 v0 out (f_Row_at_22 v0 ) := by
  obtain ⟨hx, hb, hml, hown, htB, ⟨hK, hN⟩, hZ, hA, hr, hlocks⟩ := id X
  intro s0 ls H locs h hl hP hD hS
  obtain rfl := Option.some.inj h
  exact W.iret (v := s0) hx hb hr (fun t ht hW => ⟨⟨s0, (), rfl, rfl, by rw [ht]; exact hP, hD⟩, hS.F ht⟩) hS.2.2 d_Row_at_22 hlocks

def f_Row_at_21 (v0 : T_Row) : Option O_Row_at := f_Row_at_22 v0 (-1 : Int32)
set_option maxHeartbeats 4000000 in
set_option maxRecDepth 100000 in
theorem w_Row_at_21 {p : Program} {l : Launch} {e : Env} {s : State} {m : MethodId} {args : Array Value} {below : List Frame} {meth : Method} {c : Code} {A : Nat → Prop} {D : va_G} {cC cI : ClassId} {a0_0 a0_1 : Nat} {v0 : T_Row} (X : xCX p s m args meth c A D cC cI b_Row_at 2 R_Row (some .int)) {out : O_Row_at}   : J_Row_at_21 p l e s m args below meth c A D cC cI a0_0 a0_1 v0 out (f_Row_at_21 v0 ) := by
  obtain ⟨hx, hb, hml, hown, htB, ⟨hK, hN⟩, hZ, hA, hr, hlocks⟩ := id X
  intro  ls H locs h hl hP hD hS
  refine lv_iconst (v := -1) hx hb d_Row_at_21 (by decide) ?_
  exact w_Row_at_22 X (-1 : Int32) ls H locs h (lv_sub hl [] rfl) hP hD hS

def f_Row_at (v0 : T_Row) (v1 : Int32) : Option O_Row_at := (if v1 < 0 then f_Row_at_21 v0 else (if v0.2 ≤ v1 then f_Row_at_21 v0 else if ix v1 120 then f_Row_at_22 v0 (v0.1 v1.toNatClampNeg) else none))
set_option maxHeartbeats 4000000 in
set_option maxRecDepth 100000 in
theorem w_Row_at {p : Program} {l : Launch} {e : Env} {s : State} {m : MethodId} {args : Array Value} {below : List Frame} {meth : Method} {c : Code} {A : Nat → Prop} {D : va_G} {cC cI : ClassId} {a0_0 a0_1 : Nat} {v0 : T_Row} (X : xCX p s m args meth c A D cC cI b_Row_at 2 R_Row (some .int)) {out : O_Row_at} (v1 : Int32) {ls : Array Slot} {H : Heap} {locs : List Loc} (h : f_Row_at v0 v1 = some out) (hl : lv_has ls 2 [(0, .ref a0_0), (1, .int v1)]) (hP : va_P D classes (wd_Row_at cC cI a0_0 a0_1 v0) H) (hD : va_D A (wd_Row_at cC cI a0_0 a0_1 v0)) (hS : va_S A s.heap H locs) : W p l e rm_Row_at s m args below meth c H locs 0 0 (MQ below (q_Row_at D cC cI a0_0 a0_1 v0 out A) args s 0 0 A) (F0 m 0 ls []) := by
  obtain ⟨hx, hb, hml, hown, htB, ⟨hK, hN⟩, hZ, hA, hr, hlocks⟩ := id X
  refine lv_iload_n hx hb d_Row_at_0 rfl (lv_at hl 1 rfl) ?_
  refine lv_if_lt (tgt := 21) hx hb d_Row_at_1 rfl (fun hc => ?_) (fun hc => ?_)
  · have h := (if_pos hc).symm.trans h
    exact w_Row_at_21 X ls H locs h (lv_sub hl [] rfl) hP hD hS
  have h := (if_neg hc).symm.trans h
  refine lv_iload_n hx hb d_Row_at_4 rfl (lv_at hl 1 rfl) ?_
  refine lv_aload_n hx hb d_Row_at_5 rfl (lv_at hl 0 rfl) ?_
  refine va_get (D := D) (ci := 0) (v := .int v0.2) (C := R_Row) (T := F_Row) (N := 2) hx hb htB in_Row hown hK hP 0 rfl rfl 1 (by decide) (htB _ b_0) (fun _ h9 => h9) rfl d_Row_at_6 ?_
  refine lv_icmp_ge (tgt := 21) hx hb d_Row_at_9 rfl (fun hc => ?_) (fun hc => ?_)
  · have h := (if_pos hc).symm.trans h
    exact w_Row_at_21 X ls H locs h (lv_sub hl [] rfl) hP hD hS
  have h := (if_neg hc).symm.trans h
  refine lv_aload_n hx hb d_Row_at_12 rfl (lv_at hl 0 rfl) ?_
  refine va_get (D := D) (ci := 0) (v := .ref a0_1) (C := R_Row) (T := F_Row) (N := 2) hx hb htB in_Row hown hK hP 0 rfl rfl 0 (by decide) (htB _ b_1) (fun _ h9 => h9) rfl d_Row_at_13 ?_
  refine lv_iload_n hx hb d_Row_at_16 rfl (lv_at hl 1 rfl) ?_
  obtain ⟨hc, h⟩ := x_chk h
  refine va_cald hx hb hK hP 1 0 rfl rfl hc d_Row_at_17 ?_
  refine lv_goto (tgt := 22) hx hb d_Row_at_18 rfl ?_
  exact w_Row_at_22 X (v0.1 v1.toNatClampNeg) ls H locs h (lv_sub hl [] rfl) hP hD hS

set_option maxHeartbeats 4000000 in
set_option maxRecDepth 100000 in
theorem c_Row_at (l : Launch) (D : va_G) (cC cI : ClassId) (sz : Nat) (a0_0 a0_1 : Nat) (v0 : T_Row) (v1 : Int32) (out : O_Row_at) (h : f_Row_at v0 v1 = some out) : Met l y_Row_at (.code y_Row_at b_Row_at 2 (some .int) :: BIG) rm_Row_at (va_Pc [.ref a0_0, .int v1] (xPre D cC cI (wd_Row_at cC cI a0_0 a0_1 v0) sz)) (q_Row_at D cC cI a0_0 a0_1 v0 out (va_A (wd_Row_at cC cI a0_0 a0_1 v0) sz)) 0 0 (va_A (wd_Row_at cC cI a0_0 a0_1 v0) sz) := by
  refine Met.ofW (cc := b_Row_at) (maxL := 2) (ret := (some .int)) (by decide) rfl ?_
  intro p e s m args below meth c s₁ B hml hv
  obtain ⟨rfl, rfl, hP, hD0, hG, hZ⟩ := hv
  have hl := lv_entry [.ref a0_0, .int v1] (n := 2) (Nat.le_of_ble_eq_true rfl)
  rw [lg_entry_eq]
  exact w_Row_at (x_cx B hml hG hZ) v1 h hl hP hD0.self va_S.rf

abbrev wd_Row_add (cC cI : ClassId) (a0_0 a0_1 : Nat) (v0 : T_Row) : va_W := [(a0_0, .inr (0, [.ref a0_1, .int v0.2])), (a0_1, .inl (cC, 120, .inl v0.1))]
abbrev O_Row_add : Type := Int32 × T_Row
abbrev q_Row_add (D : va_G) (cC cI : ClassId) (a0_0 a0_1 : Nat)  (out : O_Row_add) (A : Nat → Prop) : Array Value → State → Outcome → State → Prop := va_Qi (fun r (_ : Unit) => r = out.1) (fun _ t => va_P D classes (wd_Row_add cC cI a0_0 a0_1 out.2) t.heap ∧ va_D A (wd_Row_add cC cI a0_0 a0_1 out.2)) A
abbrev rm_Row_add : Room := { frames := 0, cells := 0, slots := 0, locals := 0 }
def f_Row_add (v0 : T_Row) (v1 : Int32) : Option O_Row_add := (if v0.2 < (120 : Int32) then if ix v0.2 120 then some ((1 : Int32), ((upd v0.1 v0.2.toNatClampNeg (vp_nar .char v1)), (v0.2 + (1 : Int32)))) else none else some ((0 : Int32), v0))
set_option maxHeartbeats 4000000 in
set_option maxRecDepth 100000 in
theorem w_Row_add {p : Program} {l : Launch} {e : Env} {s : State} {m : MethodId} {args : Array Value} {below : List Frame} {meth : Method} {c : Code} {A : Nat → Prop} {D : va_G} {cC cI : ClassId} {a0_0 a0_1 : Nat} (X : xCX p s m args meth c A D cC cI b_Row_add 2 R_Row (some .boolean)) {out : O_Row_add} (v0 : T_Row) (v1 : Int32) {ls : Array Slot} {H : Heap} {locs : List Loc} (h : f_Row_add v0 v1 = some out) (hl : lv_has ls 2 [(0, .ref a0_0), (1, .int v1)]) (hP : va_P D classes (wd_Row_add cC cI a0_0 a0_1 v0) H) (hD : va_D A (wd_Row_add cC cI a0_0 a0_1 v0)) (hS : va_S A s.heap H locs) : W p l e rm_Row_add s m args below meth c H locs 0 0 (MQ below (q_Row_add D cC cI a0_0 a0_1 out A) args s 0 0 A) (F0 m 0 ls []) := by
  obtain ⟨hx, hb, hml, hown, htB, ⟨hK, hN⟩, hZ, hA, hr, hlocks⟩ := id X
  refine lv_aload_n hx hb d_Row_add_0 rfl (lv_at hl 0 rfl) ?_
  refine va_get (D := D) (ci := 0) (v := .int v0.2) (C := R_Row) (T := F_Row) (N := 2) hx hb htB in_Row hown hK hP 0 rfl rfl 1 (by decide) (htB _ b_0) (fun _ h9 => h9) rfl d_Row_add_1 ?_
  refine lv_aload_n hx hb d_Row_add_4 rfl (lv_at hl 0 rfl) ?_
  refine va_get (D := D) (ci := 0) (v := .ref a0_1) (C := R_Row) (T := F_Row) (N := 2) hx hb htB in_Row hown hK hP 0 rfl rfl 0 (by decide) (htB _ b_1) (fun _ h9 => h9) rfl d_Row_add_5 ?_
  refine va_alen hx hb hK hP 1 0 rfl rfl (v := 120) rfl d_Row_add_8 ?_
  refine lv_icmp_lt (tgt := 14) hx hb d_Row_add_9 rfl (fun hc => ?_) (fun hc => ?_)
  · have h := (if_pos hc).symm.trans h
    refine lv_aload_n hx hb d_Row_add_14 rfl (lv_at hl 0 rfl) ?_
    refine va_get (D := D) (ci := 0) (v := .ref a0_1) (C := R_Row) (T := F_Row) (N := 2) hx hb htB in_Row hown hK hP 0 rfl rfl 0 (by decide) (htB _ b_1) (fun _ h9 => h9) rfl d_Row_add_15 ?_
    refine lv_aload_n hx hb d_Row_add_18 rfl (lv_at hl 0 rfl) ?_
    refine va_get (D := D) (ci := 0) (v := .int v0.2) (C := R_Row) (T := F_Row) (N := 2) hx hb htB in_Row hown hK hP 0 rfl rfl 1 (by decide) (htB _ b_0) (fun _ h9 => h9) rfl d_Row_add_19 ?_
    refine lv_iload_n hx hb d_Row_add_22 rfl (lv_at hl 1 rfl) ?_
    obtain ⟨hc, h⟩ := x_chk h
    refine va_cast hx hb hK hP hD hS 1 0 rfl rfl hc d_Row_add_23 (fun H locs hP hD hS => ?_)
    have hP : va_P D classes (wd_Row_add cC cI a0_0 a0_1 ((upd v0.1 v0.2.toNatClampNeg (vp_nar .char v1)), v0.2)) H := hP
    have hD : va_D A (wd_Row_add cC cI a0_0 a0_1 ((upd v0.1 v0.2.toNatClampNeg (vp_nar .char v1)), v0.2)) := hD
    refine lv_aload_n hx hb d_Row_add_24 rfl (lv_at hl 0 rfl) ?_
    refine lv_dup hx hb d_Row_add_25 rfl ?_
    refine va_get (D := D) (ci := 0) (v := .int v0.2) (C := R_Row) (T := F_Row) (N := 2) hx hb htB in_Row hown hK hP 0 rfl rfl 1 (by decide) (htB _ b_0) (fun _ h9 => h9) rfl d_Row_add_26 ?_
    refine lv_iconst (v := 1) hx hb d_Row_add_29 (by decide) ?_
    refine lv_iadd hx hb d_Row_add_30 ?_
    refine va_put (D := D) (ci := 0) (v := .int (v0.2 + (1 : Int32))) (ty := .int) (C := R_Row) (T := F_Row) (N := 2) hx hb htB in_Row t_Row t_Row_ok n_Row hown hK hP hD hS 0 rfl rfl 1 (by decide) (htB _ b_0) (fun _ h9 => h9) rfl (by decide +kernel) rfl rfl (Nat.le_of_ble_eq_true rfl) d_Row_add_31 (fun H locs hP hD hS => ?_)
    have hP : va_P D classes (wd_Row_add cC cI a0_0 a0_1 ((upd v0.1 v0.2.toNatClampNeg (vp_nar .char v1)), (v0.2 + (1 : Int32)))) H := hP
    have hD : va_D A (wd_Row_add cC cI a0_0 a0_1 ((upd v0.1 v0.2.toNatClampNeg (vp_nar .char v1)), (v0.2 + (1 : Int32)))) := hD
    refine lv_iconst (v := 1) hx hb d_Row_add_34 (by decide) ?_
    obtain rfl := Option.some.inj h
    exact W.zret (v := (1 : Int32)) (ty := .boolean) hx hb hr rfl (fun t ht hW => ⟨⟨(1 : Int32), (), rfl, rfl, by rw [ht]; exact hP, hD⟩, hS.F ht⟩) hS.2.2 d_Row_add_35 hlocks
  have h := (if_neg hc).symm.trans h
  refine lv_iconst (v := 0) hx hb d_Row_add_12 (by decide) ?_
  obtain rfl := Option.some.inj h
  exact W.zret (v := (0 : Int32)) (ty := .boolean) hx hb hr rfl (fun t ht hW => ⟨⟨(0 : Int32), (), rfl, rfl, by rw [ht]; exact hP, hD⟩, hS.F ht⟩) hS.2.2 d_Row_add_13 hlocks

set_option maxHeartbeats 4000000 in
set_option maxRecDepth 100000 in
theorem c_Row_add (l : Launch) (D : va_G) (cC cI : ClassId) (sz : Nat) (a0_0 a0_1 : Nat) (v0 : T_Row) (v1 : Int32) (out : O_Row_add) (h : f_Row_add v0 v1 = some out) : Met l y_Row_add (.code y_Row_add b_Row_add 2 (some .boolean) :: BIG) rm_Row_add (va_Pc [.ref a0_0, .int v1] (xPre D cC cI (wd_Row_add cC cI a0_0 a0_1 v0) sz)) (q_Row_add D cC cI a0_0 a0_1 out (va_A (wd_Row_add cC cI a0_0 a0_1 v0) sz)) 0 0 (va_A (wd_Row_add cC cI a0_0 a0_1 v0) sz) := by
  refine Met.ofW (cc := b_Row_add) (maxL := 2) (ret := (some .boolean)) (by decide) rfl ?_
  intro p e s m args below meth c s₁ B hml hv
  obtain ⟨rfl, rfl, hP, hD0, hG, hZ⟩ := hv
  have hl := lv_entry [.ref a0_0, .int v1] (n := 2) (Nat.le_of_ble_eq_true rfl)
  rw [lg_entry_eq]
  exact w_Row_add (x_cx B hml hG hZ) v0 v1 h hl hP hD0.self va_S.rf

abbrev wd_Row_clear (cC cI : ClassId) (a0_0 a0_1 : Nat) (v0 : T_Row) : va_W := [(a0_0, .inr (0, [.ref a0_1, .int v0.2])), (a0_1, .inl (cC, 120, .inl v0.1))]
abbrev O_Row_clear : Type := T_Row
abbrev q_Row_clear (D : va_G) (cC cI : ClassId) (a0_0 a0_1 : Nat)  (out : O_Row_clear) (A : Nat → Prop) : Array Value → State → Outcome → State → Prop := va_Qv (fun _ : Unit => True) (fun _ t => va_P D classes (wd_Row_clear cC cI a0_0 a0_1 out) t.heap ∧ va_D A (wd_Row_clear cC cI a0_0 a0_1 out)) A
abbrev rm_Row_clear : Room := { frames := 0, cells := 0, slots := 0, locals := 0 }
def f_Row_clear (v0 : T_Row) : Option O_Row_clear := some (v0.1, (0 : Int32))
set_option maxHeartbeats 4000000 in
set_option maxRecDepth 100000 in
theorem w_Row_clear {p : Program} {l : Launch} {e : Env} {s : State} {m : MethodId} {args : Array Value} {below : List Frame} {meth : Method} {c : Code} {A : Nat → Prop} {D : va_G} {cC cI : ClassId} {a0_0 a0_1 : Nat} (X : xCX p s m args meth c A D cC cI b_Row_clear 1 R_Row none) {out : O_Row_clear} (v0 : T_Row) {ls : Array Slot} {H : Heap} {locs : List Loc} (h : f_Row_clear v0 = some out) (hl : lv_has ls 1 [(0, .ref a0_0)]) (hP : va_P D classes (wd_Row_clear cC cI a0_0 a0_1 v0) H) (hD : va_D A (wd_Row_clear cC cI a0_0 a0_1 v0)) (hS : va_S A s.heap H locs) : W p l e rm_Row_clear s m args below meth c H locs 0 0 (MQ below (q_Row_clear D cC cI a0_0 a0_1 out A) args s 0 0 A) (F0 m 0 ls []) := by
  obtain ⟨hx, hb, hml, hown, htB, ⟨hK, hN⟩, hZ, hA, hr, hlocks⟩ := id X
  refine lv_aload_n hx hb d_Row_clear_0 rfl (lv_at hl 0 rfl) ?_
  refine lv_iconst (v := 0) hx hb d_Row_clear_1 (by decide) ?_
  refine va_put (D := D) (ci := 0) (v := .int (0 : Int32)) (ty := .int) (C := R_Row) (T := F_Row) (N := 2) hx hb htB in_Row t_Row t_Row_ok n_Row hown hK hP hD hS 0 rfl rfl 1 (by decide) (htB _ b_0) (fun _ h9 => h9) rfl (by decide +kernel) rfl rfl (Nat.le_of_ble_eq_true rfl) d_Row_clear_2 (fun H locs hP hD hS => ?_)
  have hP : va_P D classes (wd_Row_clear cC cI a0_0 a0_1 (v0.1, (0 : Int32))) H := hP
  have hD : va_D A (wd_Row_clear cC cI a0_0 a0_1 (v0.1, (0 : Int32))) := hD
  obtain rfl := Option.some.inj h
  exact W.vret hx hb hr (fun t ht hW => ⟨⟨(), rfl, trivial, by rw [ht]; exact hP, hD⟩, hS.F ht⟩) hS.2.2 d_Row_clear_5 hlocks

set_option maxHeartbeats 4000000 in
set_option maxRecDepth 100000 in
theorem c_Row_clear (l : Launch) (D : va_G) (cC cI : ClassId) (sz : Nat) (a0_0 a0_1 : Nat) (v0 : T_Row) (out : O_Row_clear) (h : f_Row_clear v0 = some out) : Met l y_Row_clear (.code y_Row_clear b_Row_clear 1 none :: BIG) rm_Row_clear (va_Pc [.ref a0_0] (xPre D cC cI (wd_Row_clear cC cI a0_0 a0_1 v0) sz)) (q_Row_clear D cC cI a0_0 a0_1 out (va_A (wd_Row_clear cC cI a0_0 a0_1 v0) sz)) 0 0 (va_A (wd_Row_clear cC cI a0_0 a0_1 v0) sz) := by
  refine Met.ofW (cc := b_Row_clear) (maxL := 1) (ret := none) (by decide) rfl ?_
  intro p e s m args below meth c s₁ B hml hv
  obtain ⟨rfl, rfl, hP, hD0, hG, hZ⟩ := hv
  have hl := lv_entry [.ref a0_0] (n := 1) (Nat.le_of_ble_eq_true rfl)
  rw [lg_entry_eq]
  exact w_Row_clear (x_cx B hml hG hZ) v0 h hl hP hD0.self va_S.rf

abbrev wd_Row_become (cC cI : ClassId) (a0_0 a0_1 a1_0 a1_1 : Nat) (v0 : T_Row) (v1 : T_Row) : va_W := [(a0_0, .inr (0, [.ref a0_1, .int v0.2])), (a0_1, .inl (cC, 120, .inl v0.1)), (a1_0, .inr (0, [.ref a1_1, .int v1.2])), (a1_1, .inl (cC, 120, .inl v1.1))]
abbrev O_Row_become : Type := T_Row
abbrev q_Row_become (D : va_G) (cC cI : ClassId) (a0_0 a0_1 a1_0 a1_1 : Nat) (v1 : T_Row) (out : O_Row_become) (A : Nat → Prop) : Array Value → State → Outcome → State → Prop := va_Qv (fun _ : Unit => True) (fun _ t => va_P D classes (wd_Row_become cC cI a0_0 a0_1 a1_0 a1_1 out v1) t.heap ∧ va_D A (wd_Row_become cC cI a0_0 a0_1 a1_0 a1_1 out v1)) A
abbrev rm_Row_become : Room := { frames := 1, cells := 0, slots := 0, locals := 100 }
def f_Row_become (v0 : T_Row) (v1 : T_Row) : Option O_Row_become := if (¬ (0 : Int32) < 0 ∧ ¬ (0 : Int32) < 0 ∧ ¬ v1.2 < 0 ∧ (0 : Int32).toNatClampNeg + v1.2.toNatClampNeg ≤ 120 ∧ (0 : Int32).toNatClampNeg + v1.2.toNatClampNeg ≤ 120 ∧ ∀ i, i < v1.2.toNatClampNeg → fits .char (.int (v1.1 ((0 : Int32).toNatClampNeg + i))) = true) then some ((va_cpy v1.1 v0.1 (0 : Int32).toNatClampNeg (0 : Int32).toNatClampNeg v1.2.toNatClampNeg), v1.2) else none
set_option maxHeartbeats 4000000 in
set_option maxRecDepth 100000 in
theorem w_Row_become {p : Program} {l : Launch} {e : Env} {s : State} {m : MethodId} {args : Array Value} {below : List Frame} {meth : Method} {c : Code} {A : Nat → Prop} {D : va_G} {cC cI : ClassId} {a0_0 a0_1 a1_0 a1_1 : Nat} {v1 : T_Row} (X : xCX p s m args meth c A D cC cI b_Row_become 2 R_Row none) {out : O_Row_become} (v0 : T_Row) {ls : Array Slot} {H : Heap} {locs : List Loc} (h : f_Row_become v0 v1 = some out) (hl : lv_has ls 2 [(0, .ref a0_0), (1, .ref a1_0)]) (hP : va_P D classes (wd_Row_become cC cI a0_0 a0_1 a1_0 a1_1 v0 v1) H) (hD : va_D A (wd_Row_become cC cI a0_0 a0_1 a1_0 a1_1 v0 v1)) (hS : va_S A s.heap H locs) : W p l e rm_Row_become s m args below meth c H locs 0 0 (MQ below (q_Row_become D cC cI a0_0 a0_1 a1_0 a1_1 v1 out A) args s 0 0 A) (F0 m 0 ls []) := by
  obtain ⟨hx, hb, hml, hown, htB, ⟨hK, hN⟩, hZ, hA, hr, hlocks⟩ := id X
  refine lv_aload_n hx hb d_Row_become_0 rfl (lv_at hl 1 rfl) ?_
  refine va_get (D := D) (ci := 0) (v := .ref a1_1) (C := R_Row) (T := F_Row) (N := 2) hx hb htB in_Row hown hK hP 2 rfl rfl 0 (by decide) (htB _ b_1) (fun _ h9 => h9) rfl d_Row_become_1 ?_
  refine lv_iconst (v := 0) hx hb d_Row_become_4 (by decide) ?_
  refine lv_aload_n hx hb d_Row_become_5 rfl (lv_at hl 0 rfl) ?_
  refine va_get (D := D) (ci := 0) (v := .ref a0_1) (C := R_Row) (T := F_Row) (N := 2) hx hb htB in_Row hown hK hP 0 rfl rfl 0 (by decide) (htB _ b_1) (fun _ h9 => h9) rfl d_Row_become_6 ?_
  refine lv_iconst (v := 0) hx hb d_Row_become_9 (by decide) ?_
  refine lv_aload_n hx hb d_Row_become_10 rfl (lv_at hl 1 rfl) ?_
  refine va_get (D := D) (ci := 0) (v := .int v1.2) (C := R_Row) (T := F_Row) (N := 2) hx hb htB in_Row hown hK hP 2 rfl rfl 1 (by decide) (htB _ b_0) (fun _ h9 => h9) rfl d_Row_become_11 ?_
  obtain ⟨⟨hc1, hc2, hc3, hc4, hc5, hc6⟩, h⟩ := x_chk h
  refine va_copyi (ty := .char) hx hb (hml.trans hl.1.symm) hown (htB _ b_2) (htB _ b_3) (htB _ b_4) (htB _ b_5) hK hP hD hS 3 1 0 0 rfl rfl rfl rfl rfl hc1 hc2 hc3 hc4 hc5 hc6 (Nat.le_of_ble_eq_true rfl) (Nat.le_of_ble_eq_true rfl) d_Row_become_14 (fun H locs hP hD hS => ?_)
  have hP : va_P D classes (wd_Row_become cC cI a0_0 a0_1 a1_0 a1_1 ((va_cpy v1.1 v0.1 (0 : Int32).toNatClampNeg (0 : Int32).toNatClampNeg v1.2.toNatClampNeg), v0.2) v1) H := hP
  have hD : va_D A (wd_Row_become cC cI a0_0 a0_1 a1_0 a1_1 ((va_cpy v1.1 v0.1 (0 : Int32).toNatClampNeg (0 : Int32).toNatClampNeg v1.2.toNatClampNeg), v0.2) v1) := hD
  refine lv_aload_n hx hb d_Row_become_17 rfl (lv_at hl 0 rfl) ?_
  refine lv_aload_n hx hb d_Row_become_18 rfl (lv_at hl 1 rfl) ?_
  refine va_get (D := D) (ci := 0) (v := .int v1.2) (C := R_Row) (T := F_Row) (N := 2) hx hb htB in_Row hown hK hP 2 rfl rfl 1 (by decide) (htB _ b_0) (fun _ h9 => h9) rfl d_Row_become_19 ?_
  refine va_put (D := D) (ci := 0) (v := .int v1.2) (ty := .int) (C := R_Row) (T := F_Row) (N := 2) hx hb htB in_Row t_Row t_Row_ok n_Row hown hK hP hD hS 0 rfl rfl 1 (by decide) (htB _ b_0) (fun _ h9 => h9) rfl (by decide +kernel) rfl rfl (Nat.le_of_ble_eq_true rfl) d_Row_become_22 (fun H locs hP hD hS => ?_)
  have hP : va_P D classes (wd_Row_become cC cI a0_0 a0_1 a1_0 a1_1 ((va_cpy v1.1 v0.1 (0 : Int32).toNatClampNeg (0 : Int32).toNatClampNeg v1.2.toNatClampNeg), v1.2) v1) H := hP
  have hD : va_D A (wd_Row_become cC cI a0_0 a0_1 a1_0 a1_1 ((va_cpy v1.1 v0.1 (0 : Int32).toNatClampNeg (0 : Int32).toNatClampNeg v1.2.toNatClampNeg), v1.2) v1) := hD
  obtain rfl := Option.some.inj h
  exact W.vret hx hb hr (fun t ht hW => ⟨⟨(), rfl, trivial, by rw [ht]; exact hP, hD⟩, hS.F ht⟩) hS.2.2 d_Row_become_25 hlocks

set_option maxHeartbeats 4000000 in
set_option maxRecDepth 100000 in
theorem c_Row_become (l : Launch) (D : va_G) (cC cI : ClassId) (sz : Nat) (a0_0 a0_1 a1_0 a1_1 : Nat) (v0 : T_Row) (v1 : T_Row) (out : O_Row_become) (h : f_Row_become v0 v1 = some out) : Met l y_Row_become (.code y_Row_become b_Row_become 2 none :: BIG) rm_Row_become (va_Pc [.ref a0_0, .ref a1_0] (xPre D cC cI (wd_Row_become cC cI a0_0 a0_1 a1_0 a1_1 v0 v1) sz)) (q_Row_become D cC cI a0_0 a0_1 a1_0 a1_1 v1 out (va_A (wd_Row_become cC cI a0_0 a0_1 a1_0 a1_1 v0 v1) sz)) 0 0 (va_A (wd_Row_become cC cI a0_0 a0_1 a1_0 a1_1 v0 v1) sz) := by
  refine Met.ofW (cc := b_Row_become) (maxL := 2) (ret := none) (by decide) rfl ?_
  intro p e s m args below meth c s₁ B hml hv
  obtain ⟨rfl, rfl, hP, hD0, hG, hZ⟩ := hv
  have hl := lv_entry [.ref a0_0, .ref a1_0] (n := 2) (Nat.le_of_ble_eq_true rfl)
  rw [lg_entry_eq]
  exact w_Row_become (x_cx B hml hG hZ) v0 h hl hP hD0.self va_S.rf

abbrev wd_Affix_size (cC cI : ClassId) (a0_0 a0_1 : Nat) (v0 : T_Affix) : va_W := [(a0_0, .inr (1, [.ref a0_1, .int v0.2])), (a0_1, .inl (cI, 120, .inl v0.1))]
abbrev O_Affix_size : Type := Int32
abbrev q_Affix_size (D : va_G) (cC cI : ClassId) (a0_0 a0_1 : Nat) (v0 : T_Affix) (out : O_Affix_size) (A : Nat → Prop) : Array Value → State → Outcome → State → Prop := va_Qi (fun r (_ : Unit) => r = out) (fun _ t => va_P D classes (wd_Affix_size cC cI a0_0 a0_1 v0) t.heap ∧ va_D A (wd_Affix_size cC cI a0_0 a0_1 v0)) A
abbrev rm_Affix_size : Room := { frames := 0, cells := 0, slots := 0, locals := 0 }
def f_Affix_size (v0 : T_Affix) : Option O_Affix_size := some v0.2
set_option maxHeartbeats 4000000 in
set_option maxRecDepth 100000 in
theorem w_Affix_size {p : Program} {l : Launch} {e : Env} {s : State} {m : MethodId} {args : Array Value} {below : List Frame} {meth : Method} {c : Code} {A : Nat → Prop} {D : va_G} {cC cI : ClassId} {a0_0 a0_1 : Nat} {v0 : T_Affix} (X : xCX p s m args meth c A D cC cI b_Affix_size 1 R_Affix (some .int)) {out : O_Affix_size}  {ls : Array Slot} {H : Heap} {locs : List Loc} (h : f_Affix_size v0 = some out) (hl : lv_has ls 1 [(0, .ref a0_0)]) (hP : va_P D classes (wd_Affix_size cC cI a0_0 a0_1 v0) H) (hD : va_D A (wd_Affix_size cC cI a0_0 a0_1 v0)) (hS : va_S A s.heap H locs) : W p l e rm_Affix_size s m args below meth c H locs 0 0 (MQ below (q_Affix_size D cC cI a0_0 a0_1 v0 out A) args s 0 0 A) (F0 m 0 ls []) := by
  obtain ⟨hx, hb, hml, hown, htB, ⟨hK, hN⟩, hZ, hA, hr, hlocks⟩ := id X
  refine lv_aload_n hx hb d_Affix_size_0 rfl (lv_at hl 0 rfl) ?_
  refine va_get (D := D) (ci := 1) (v := .int v0.2) (C := R_Affix) (T := F_Affix) (N := 2) hx hb htB in_Affix hown hK hP 0 rfl rfl 1 (by decide) (htB _ b_6) (fun _ h9 => h9) rfl d_Affix_size_1 ?_
  obtain rfl := Option.some.inj h
  exact W.iret (v := v0.2) hx hb hr (fun t ht hW => ⟨⟨v0.2, (), rfl, rfl, by rw [ht]; exact hP, hD⟩, hS.F ht⟩) hS.2.2 d_Affix_size_4 hlocks

set_option maxHeartbeats 4000000 in
set_option maxRecDepth 100000 in
theorem c_Affix_size (l : Launch) (D : va_G) (cC cI : ClassId) (sz : Nat) (a0_0 a0_1 : Nat) (v0 : T_Affix) (out : O_Affix_size) (h : f_Affix_size v0 = some out) : Met l y_Affix_size (.code y_Affix_size b_Affix_size 1 (some .int) :: BIG) rm_Affix_size (va_Pc [.ref a0_0] (xPre D cC cI (wd_Affix_size cC cI a0_0 a0_1 v0) sz)) (q_Affix_size D cC cI a0_0 a0_1 v0 out (va_A (wd_Affix_size cC cI a0_0 a0_1 v0) sz)) 0 0 (va_A (wd_Affix_size cC cI a0_0 a0_1 v0) sz) := by
  refine Met.ofW (cc := b_Affix_size) (maxL := 1) (ret := (some .int)) (by decide) rfl ?_
  intro p e s m args below meth c s₁ B hml hv
  obtain ⟨rfl, rfl, hP, hD0, hG, hZ⟩ := hv
  have hl := lv_entry [.ref a0_0] (n := 1) (Nat.le_of_ble_eq_true rfl)
  rw [lg_entry_eq]
  exact w_Affix_size (x_cx B hml hG hZ) h hl hP hD0.self va_S.rf

abbrev wd_Affix_at (cC cI : ClassId) (a0_0 a0_1 : Nat) (v0 : T_Affix) : va_W := [(a0_0, .inr (1, [.ref a0_1, .int v0.2])), (a0_1, .inl (cI, 120, .inl v0.1))]
abbrev O_Affix_at : Type := Int32
abbrev q_Affix_at (D : va_G) (cC cI : ClassId) (a0_0 a0_1 : Nat) (v0 : T_Affix) (out : O_Affix_at) (A : Nat → Prop) : Array Value → State → Outcome → State → Prop := va_Qi (fun r (_ : Unit) => r = out) (fun _ t => va_P D classes (wd_Affix_at cC cI a0_0 a0_1 v0) t.heap ∧ va_D A (wd_Affix_at cC cI a0_0 a0_1 v0)) A
abbrev rm_Affix_at : Room := { frames := 0, cells := 0, slots := 0, locals := 0 }
def J_Affix_at_21 (p : Program) (l : Launch) (e : Env) (s : State) (m : MethodId) (args : Array Value) (below : List Frame) (meth : Method) (c : Code) (A : Nat → Prop) (D : va_G) (cC cI : ClassId) (a0_0 a0_1 : Nat) (v0 : T_Affix) (out : O_Affix_at) (k : Option O_Affix_at) : Prop := ∀  (ls : Array Slot) (H : Heap) (locs : List Loc), k  = some out → lv_has ls 2 [] → va_P D classes (wd_Affix_at cC cI a0_0 a0_1 v0) H → va_D A (wd_Affix_at cC cI a0_0 a0_1 v0) → va_S A s.heap H locs → W p l e rm_Affix_at s m args below meth c H locs 0 0 (MQ below (q_Affix_at D cC cI a0_0 a0_1 v0 out A) args s 0 0 A) (F0 m 21 ls [])
def J_Affix_at_22 (p : Program) (l : Launch) (e : Env) (s : State) (m : MethodId) (args : Array Value) (below : List Frame) (meth : Method) (c : Code) (A : Nat → Prop) (D : va_G) (cC cI : ClassId) (a0_0 a0_1 : Nat) (v0 : T_Affix) (out : O_Affix_at) (k : Int32 → Option O_Affix_at) : Prop := ∀ (s0 : Int32) (ls : Array Slot) (H : Heap) (locs : List Loc), k s0 = some out → lv_has ls 2 [] → va_P D classes (wd_Affix_at cC cI a0_0 a0_1 v0) H → va_D A (wd_Affix_at cC cI a0_0 a0_1 v0) → va_S A s.heap H locs → W p l e rm_Affix_at s m args below meth c H locs 0 0 (MQ below (q_Affix_at D cC cI a0_0 a0_1 v0 out A) args s 0 0 A) (F0 m 22 ls [.int s0])
def f_Affix_at_22 (v0 : T_Affix) (s0 : Int32) : Option O_Affix_at := some s0
set_option maxHeartbeats 4000000 in
set_option maxRecDepth 100000 in
theorem w_Affix_at_22 {p : Program} {l : Launch} {e : Env} {s : State} {m : MethodId} {args : Array Value} {below : List Frame} {meth : Method} {c : Code} {A : Nat → Prop} {D : va_G} {cC cI : ClassId} {a0_0 a0_1 : Nat} {v0 : T_Affix} (X : xCX p s m args meth c A D cC cI b_Affix_at 2 R_Affix (some .int)) {out : O_Affix_at}   : J_Affix_at_22 p l e s m args below meth c A D cC cI a0_0 a0_1 v0 out (f_Affix_at_22 v0 ) := by
  obtain ⟨hx, hb, hml, hown, htB, ⟨hK, hN⟩, hZ, hA, hr, hlocks⟩ := id X
  intro s0 ls H locs h hl hP hD hS
  obtain rfl := Option.some.inj h
  exact W.iret (v := s0) hx hb hr (fun t ht hW => ⟨⟨s0, (), rfl, rfl, by rw [ht]; exact hP, hD⟩, hS.F ht⟩) hS.2.2 d_Affix_at_22 hlocks

def f_Affix_at_21 (v0 : T_Affix) : Option O_Affix_at := f_Affix_at_22 v0 (-1 : Int32)
set_option maxHeartbeats 4000000 in
set_option maxRecDepth 100000 in
theorem w_Affix_at_21 {p : Program} {l : Launch} {e : Env} {s : State} {m : MethodId} {args : Array Value} {below : List Frame} {meth : Method} {c : Code} {A : Nat → Prop} {D : va_G} {cC cI : ClassId} {a0_0 a0_1 : Nat} {v0 : T_Affix} (X : xCX p s m args meth c A D cC cI b_Affix_at 2 R_Affix (some .int)) {out : O_Affix_at}   : J_Affix_at_21 p l e s m args below meth c A D cC cI a0_0 a0_1 v0 out (f_Affix_at_21 v0 ) := by
  obtain ⟨hx, hb, hml, hown, htB, ⟨hK, hN⟩, hZ, hA, hr, hlocks⟩ := id X
  intro  ls H locs h hl hP hD hS
  refine lv_iconst (v := -1) hx hb d_Affix_at_21 (by decide) ?_
  exact w_Affix_at_22 X (-1 : Int32) ls H locs h (lv_sub hl [] rfl) hP hD hS

def f_Affix_at (v0 : T_Affix) (v1 : Int32) : Option O_Affix_at := (if v1 < 0 then f_Affix_at_21 v0 else (if v0.2 ≤ v1 then f_Affix_at_21 v0 else if ix v1 120 then f_Affix_at_22 v0 (v0.1 v1.toNatClampNeg) else none))
set_option maxHeartbeats 4000000 in
set_option maxRecDepth 100000 in
theorem w_Affix_at {p : Program} {l : Launch} {e : Env} {s : State} {m : MethodId} {args : Array Value} {below : List Frame} {meth : Method} {c : Code} {A : Nat → Prop} {D : va_G} {cC cI : ClassId} {a0_0 a0_1 : Nat} {v0 : T_Affix} (X : xCX p s m args meth c A D cC cI b_Affix_at 2 R_Affix (some .int)) {out : O_Affix_at} (v1 : Int32) {ls : Array Slot} {H : Heap} {locs : List Loc} (h : f_Affix_at v0 v1 = some out) (hl : lv_has ls 2 [(0, .ref a0_0), (1, .int v1)]) (hP : va_P D classes (wd_Affix_at cC cI a0_0 a0_1 v0) H) (hD : va_D A (wd_Affix_at cC cI a0_0 a0_1 v0)) (hS : va_S A s.heap H locs) : W p l e rm_Affix_at s m args below meth c H locs 0 0 (MQ below (q_Affix_at D cC cI a0_0 a0_1 v0 out A) args s 0 0 A) (F0 m 0 ls []) := by
  obtain ⟨hx, hb, hml, hown, htB, ⟨hK, hN⟩, hZ, hA, hr, hlocks⟩ := id X
  refine lv_iload_n hx hb d_Affix_at_0 rfl (lv_at hl 1 rfl) ?_
  refine lv_if_lt (tgt := 21) hx hb d_Affix_at_1 rfl (fun hc => ?_) (fun hc => ?_)
  · have h := (if_pos hc).symm.trans h
    exact w_Affix_at_21 X ls H locs h (lv_sub hl [] rfl) hP hD hS
  have h := (if_neg hc).symm.trans h
  refine lv_iload_n hx hb d_Affix_at_4 rfl (lv_at hl 1 rfl) ?_
  refine lv_aload_n hx hb d_Affix_at_5 rfl (lv_at hl 0 rfl) ?_
  refine va_get (D := D) (ci := 1) (v := .int v0.2) (C := R_Affix) (T := F_Affix) (N := 2) hx hb htB in_Affix hown hK hP 0 rfl rfl 1 (by decide) (htB _ b_6) (fun _ h9 => h9) rfl d_Affix_at_6 ?_
  refine lv_icmp_ge (tgt := 21) hx hb d_Affix_at_9 rfl (fun hc => ?_) (fun hc => ?_)
  · have h := (if_pos hc).symm.trans h
    exact w_Affix_at_21 X ls H locs h (lv_sub hl [] rfl) hP hD hS
  have h := (if_neg hc).symm.trans h
  refine lv_aload_n hx hb d_Affix_at_12 rfl (lv_at hl 0 rfl) ?_
  refine va_get (D := D) (ci := 1) (v := .ref a0_1) (C := R_Affix) (T := F_Affix) (N := 2) hx hb htB in_Affix hown hK hP 0 rfl rfl 0 (by decide) (htB _ b_7) (fun _ h9 => h9) rfl d_Affix_at_13 ?_
  refine lv_iload_n hx hb d_Affix_at_16 rfl (lv_at hl 1 rfl) ?_
  obtain ⟨hc, h⟩ := x_chk h
  refine va_iald hx hb hK hP 1 1 rfl rfl hc d_Affix_at_17 ?_
  refine lv_goto (tgt := 22) hx hb d_Affix_at_18 rfl ?_
  exact w_Affix_at_22 X (v0.1 v1.toNatClampNeg) ls H locs h (lv_sub hl [] rfl) hP hD hS

set_option maxHeartbeats 4000000 in
set_option maxRecDepth 100000 in
theorem c_Affix_at (l : Launch) (D : va_G) (cC cI : ClassId) (sz : Nat) (a0_0 a0_1 : Nat) (v0 : T_Affix) (v1 : Int32) (out : O_Affix_at) (h : f_Affix_at v0 v1 = some out) : Met l y_Affix_at (.code y_Affix_at b_Affix_at 2 (some .int) :: BIG) rm_Affix_at (va_Pc [.ref a0_0, .int v1] (xPre D cC cI (wd_Affix_at cC cI a0_0 a0_1 v0) sz)) (q_Affix_at D cC cI a0_0 a0_1 v0 out (va_A (wd_Affix_at cC cI a0_0 a0_1 v0) sz)) 0 0 (va_A (wd_Affix_at cC cI a0_0 a0_1 v0) sz) := by
  refine Met.ofW (cc := b_Affix_at) (maxL := 2) (ret := (some .int)) (by decide) rfl ?_
  intro p e s m args below meth c s₁ B hml hv
  obtain ⟨rfl, rfl, hP, hD0, hG, hZ⟩ := hv
  have hl := lv_entry [.ref a0_0, .int v1] (n := 2) (Nat.le_of_ble_eq_true rfl)
  rw [lg_entry_eq]
  exact w_Affix_at (x_cx B hml hG hZ) v1 h hl hP hD0.self va_S.rf

abbrev wd_Affix_clear (cC cI : ClassId) (a0_0 a0_1 : Nat) (v0 : T_Affix) : va_W := [(a0_0, .inr (1, [.ref a0_1, .int v0.2])), (a0_1, .inl (cI, 120, .inl v0.1))]
abbrev O_Affix_clear : Type := T_Affix
abbrev q_Affix_clear (D : va_G) (cC cI : ClassId) (a0_0 a0_1 : Nat)  (out : O_Affix_clear) (A : Nat → Prop) : Array Value → State → Outcome → State → Prop := va_Qv (fun _ : Unit => True) (fun _ t => va_P D classes (wd_Affix_clear cC cI a0_0 a0_1 out) t.heap ∧ va_D A (wd_Affix_clear cC cI a0_0 a0_1 out)) A
abbrev rm_Affix_clear : Room := { frames := 0, cells := 0, slots := 0, locals := 0 }
def f_Affix_clear (v0 : T_Affix) : Option O_Affix_clear := some (v0.1, (0 : Int32))
set_option maxHeartbeats 4000000 in
set_option maxRecDepth 100000 in
theorem w_Affix_clear {p : Program} {l : Launch} {e : Env} {s : State} {m : MethodId} {args : Array Value} {below : List Frame} {meth : Method} {c : Code} {A : Nat → Prop} {D : va_G} {cC cI : ClassId} {a0_0 a0_1 : Nat} (X : xCX p s m args meth c A D cC cI b_Affix_clear 1 R_Affix none) {out : O_Affix_clear} (v0 : T_Affix) {ls : Array Slot} {H : Heap} {locs : List Loc} (h : f_Affix_clear v0 = some out) (hl : lv_has ls 1 [(0, .ref a0_0)]) (hP : va_P D classes (wd_Affix_clear cC cI a0_0 a0_1 v0) H) (hD : va_D A (wd_Affix_clear cC cI a0_0 a0_1 v0)) (hS : va_S A s.heap H locs) : W p l e rm_Affix_clear s m args below meth c H locs 0 0 (MQ below (q_Affix_clear D cC cI a0_0 a0_1 out A) args s 0 0 A) (F0 m 0 ls []) := by
  obtain ⟨hx, hb, hml, hown, htB, ⟨hK, hN⟩, hZ, hA, hr, hlocks⟩ := id X
  refine lv_aload_n hx hb d_Affix_clear_0 rfl (lv_at hl 0 rfl) ?_
  refine lv_iconst (v := 0) hx hb d_Affix_clear_1 (by decide) ?_
  refine va_put (D := D) (ci := 1) (v := .int (0 : Int32)) (ty := .int) (C := R_Affix) (T := F_Affix) (N := 2) hx hb htB in_Affix t_Affix t_Affix_ok n_Affix hown hK hP hD hS 0 rfl rfl 1 (by decide) (htB _ b_6) (fun _ h9 => h9) rfl (by decide +kernel) rfl rfl (Nat.le_of_ble_eq_true rfl) d_Affix_clear_2 (fun H locs hP hD hS => ?_)
  have hP : va_P D classes (wd_Affix_clear cC cI a0_0 a0_1 (v0.1, (0 : Int32))) H := hP
  have hD : va_D A (wd_Affix_clear cC cI a0_0 a0_1 (v0.1, (0 : Int32))) := hD
  obtain rfl := Option.some.inj h
  exact W.vret hx hb hr (fun t ht hW => ⟨⟨(), rfl, trivial, by rw [ht]; exact hP, hD⟩, hS.F ht⟩) hS.2.2 d_Affix_clear_5 hlocks

set_option maxHeartbeats 4000000 in
set_option maxRecDepth 100000 in
theorem c_Affix_clear (l : Launch) (D : va_G) (cC cI : ClassId) (sz : Nat) (a0_0 a0_1 : Nat) (v0 : T_Affix) (out : O_Affix_clear) (h : f_Affix_clear v0 = some out) : Met l y_Affix_clear (.code y_Affix_clear b_Affix_clear 1 none :: BIG) rm_Affix_clear (va_Pc [.ref a0_0] (xPre D cC cI (wd_Affix_clear cC cI a0_0 a0_1 v0) sz)) (q_Affix_clear D cC cI a0_0 a0_1 out (va_A (wd_Affix_clear cC cI a0_0 a0_1 v0) sz)) 0 0 (va_A (wd_Affix_clear cC cI a0_0 a0_1 v0) sz) := by
  refine Met.ofW (cc := b_Affix_clear) (maxL := 1) (ret := none) (by decide) rfl ?_
  intro p e s m args below meth c s₁ B hml hv
  obtain ⟨rfl, rfl, hP, hD0, hG, hZ⟩ := hv
  have hl := lv_entry [.ref a0_0] (n := 1) (Nat.le_of_ble_eq_true rfl)
  rw [lg_entry_eq]
  exact w_Affix_clear (x_cx B hml hG hZ) v0 h hl hP hD0.self va_S.rf

abbrev wd_Affix_add (cC cI : ClassId) (a0_0 a0_1 : Nat) (v0 : T_Affix) : va_W := [(a0_0, .inr (1, [.ref a0_1, .int v0.2])), (a0_1, .inl (cI, 120, .inl v0.1))]
abbrev O_Affix_add : Type := T_Affix
abbrev q_Affix_add (D : va_G) (cC cI : ClassId) (a0_0 a0_1 : Nat)  (out : O_Affix_add) (A : Nat → Prop) : Array Value → State → Outcome → State → Prop := va_Qv (fun _ : Unit => True) (fun _ t => va_P D classes (wd_Affix_add cC cI a0_0 a0_1 out) t.heap ∧ va_D A (wd_Affix_add cC cI a0_0 a0_1 out)) A
abbrev rm_Affix_add : Room := { frames := 0, cells := 0, slots := 0, locals := 0 }
def J_Affix_add_32 (p : Program) (l : Launch) (e : Env) (s : State) (m : MethodId) (args : Array Value) (below : List Frame) (meth : Method) (c : Code) (A : Nat → Prop) (D : va_G) (cC cI : ClassId) (a0_0 a0_1 : Nat) (out : O_Affix_add) (k : T_Affix → Option O_Affix_add) : Prop := ∀ (v0 : T_Affix) (ls : Array Slot) (H : Heap) (locs : List Loc), k v0 = some out → lv_has ls 2 [] → va_P D classes (wd_Affix_add cC cI a0_0 a0_1 v0) H → va_D A (wd_Affix_add cC cI a0_0 a0_1 v0) → va_S A s.heap H locs → W p l e rm_Affix_add s m args below meth c H locs 0 0 (MQ below (q_Affix_add D cC cI a0_0 a0_1 out A) args s 0 0 A) (F0 m 32 ls [])
def f_Affix_add_32 (v0 : T_Affix) : Option O_Affix_add := some v0
set_option maxHeartbeats 4000000 in
set_option maxRecDepth 100000 in
theorem w_Affix_add_32 {p : Program} {l : Launch} {e : Env} {s : State} {m : MethodId} {args : Array Value} {below : List Frame} {meth : Method} {c : Code} {A : Nat → Prop} {D : va_G} {cC cI : ClassId} {a0_0 a0_1 : Nat} (X : xCX p s m args meth c A D cC cI b_Affix_add 2 R_Affix none) {out : O_Affix_add}   : J_Affix_add_32 p l e s m args below meth c A D cC cI a0_0 a0_1 out (f_Affix_add_32  ) := by
  obtain ⟨hx, hb, hml, hown, htB, ⟨hK, hN⟩, hZ, hA, hr, hlocks⟩ := id X
  intro v0 ls H locs h hl hP hD hS
  obtain rfl := Option.some.inj h
  exact W.vret hx hb hr (fun t ht hW => ⟨⟨(), rfl, trivial, by rw [ht]; exact hP, hD⟩, hS.F ht⟩) hS.2.2 d_Affix_add_32 hlocks

def f_Affix_add (v0 : T_Affix) (v1 : Int32) : Option O_Affix_add := (if (120 : Int32) ≤ v0.2 then f_Affix_add_32 v0 else if ix v0.2 120 then f_Affix_add_32 ((upd v0.1 v0.2.toNatClampNeg v1), (v0.2 + (1 : Int32))) else none)
set_option maxHeartbeats 4000000 in
set_option maxRecDepth 100000 in
theorem w_Affix_add {p : Program} {l : Launch} {e : Env} {s : State} {m : MethodId} {args : Array Value} {below : List Frame} {meth : Method} {c : Code} {A : Nat → Prop} {D : va_G} {cC cI : ClassId} {a0_0 a0_1 : Nat} (X : xCX p s m args meth c A D cC cI b_Affix_add 2 R_Affix none) {out : O_Affix_add} (v0 : T_Affix) (v1 : Int32) {ls : Array Slot} {H : Heap} {locs : List Loc} (h : f_Affix_add v0 v1 = some out) (hl : lv_has ls 2 [(0, .ref a0_0), (1, .int v1)]) (hP : va_P D classes (wd_Affix_add cC cI a0_0 a0_1 v0) H) (hD : va_D A (wd_Affix_add cC cI a0_0 a0_1 v0)) (hS : va_S A s.heap H locs) : W p l e rm_Affix_add s m args below meth c H locs 0 0 (MQ below (q_Affix_add D cC cI a0_0 a0_1 out A) args s 0 0 A) (F0 m 0 ls []) := by
  obtain ⟨hx, hb, hml, hown, htB, ⟨hK, hN⟩, hZ, hA, hr, hlocks⟩ := id X
  refine lv_aload_n hx hb d_Affix_add_0 rfl (lv_at hl 0 rfl) ?_
  refine va_get (D := D) (ci := 1) (v := .int v0.2) (C := R_Affix) (T := F_Affix) (N := 2) hx hb htB in_Affix hown hK hP 0 rfl rfl 1 (by decide) (htB _ b_6) (fun _ h9 => h9) rfl d_Affix_add_1 ?_
  refine lv_aload_n hx hb d_Affix_add_4 rfl (lv_at hl 0 rfl) ?_
  refine va_get (D := D) (ci := 1) (v := .ref a0_1) (C := R_Affix) (T := F_Affix) (N := 2) hx hb htB in_Affix hown hK hP 0 rfl rfl 0 (by decide) (htB _ b_7) (fun _ h9 => h9) rfl d_Affix_add_5 ?_
  refine va_alen hx hb hK hP 1 1 rfl rfl (v := 120) rfl d_Affix_add_8 ?_
  refine lv_icmp_ge (tgt := 32) hx hb d_Affix_add_9 rfl (fun hc => ?_) (fun hc => ?_)
  · have h := (if_pos hc).symm.trans h
    exact w_Affix_add_32 X v0 ls H locs h (lv_sub hl [] rfl) hP hD hS
  have h := (if_neg hc).symm.trans h
  refine lv_aload_n hx hb d_Affix_add_12 rfl (lv_at hl 0 rfl) ?_
  refine va_get (D := D) (ci := 1) (v := .ref a0_1) (C := R_Affix) (T := F_Affix) (N := 2) hx hb htB in_Affix hown hK hP 0 rfl rfl 0 (by decide) (htB _ b_7) (fun _ h9 => h9) rfl d_Affix_add_13 ?_
  refine lv_aload_n hx hb d_Affix_add_16 rfl (lv_at hl 0 rfl) ?_
  refine va_get (D := D) (ci := 1) (v := .int v0.2) (C := R_Affix) (T := F_Affix) (N := 2) hx hb htB in_Affix hown hK hP 0 rfl rfl 1 (by decide) (htB _ b_6) (fun _ h9 => h9) rfl d_Affix_add_17 ?_
  refine lv_iload_n hx hb d_Affix_add_20 rfl (lv_at hl 1 rfl) ?_
  obtain ⟨hc, h⟩ := x_chk h
  refine va_iast hx hb hK hP hD hS 1 1 rfl rfl hc d_Affix_add_21 (fun H locs hP hD hS => ?_)
  have hP : va_P D classes (wd_Affix_add cC cI a0_0 a0_1 ((upd v0.1 v0.2.toNatClampNeg v1), v0.2)) H := hP
  have hD : va_D A (wd_Affix_add cC cI a0_0 a0_1 ((upd v0.1 v0.2.toNatClampNeg v1), v0.2)) := hD
  refine lv_aload_n hx hb d_Affix_add_22 rfl (lv_at hl 0 rfl) ?_
  refine lv_dup hx hb d_Affix_add_23 rfl ?_
  refine va_get (D := D) (ci := 1) (v := .int v0.2) (C := R_Affix) (T := F_Affix) (N := 2) hx hb htB in_Affix hown hK hP 0 rfl rfl 1 (by decide) (htB _ b_6) (fun _ h9 => h9) rfl d_Affix_add_24 ?_
  refine lv_iconst (v := 1) hx hb d_Affix_add_27 (by decide) ?_
  refine lv_iadd hx hb d_Affix_add_28 ?_
  refine va_put (D := D) (ci := 1) (v := .int (v0.2 + (1 : Int32))) (ty := .int) (C := R_Affix) (T := F_Affix) (N := 2) hx hb htB in_Affix t_Affix t_Affix_ok n_Affix hown hK hP hD hS 0 rfl rfl 1 (by decide) (htB _ b_6) (fun _ h9 => h9) rfl (by decide +kernel) rfl rfl (Nat.le_of_ble_eq_true rfl) d_Affix_add_29 (fun H locs hP hD hS => ?_)
  have hP : va_P D classes (wd_Affix_add cC cI a0_0 a0_1 ((upd v0.1 v0.2.toNatClampNeg v1), (v0.2 + (1 : Int32)))) H := hP
  have hD : va_D A (wd_Affix_add cC cI a0_0 a0_1 ((upd v0.1 v0.2.toNatClampNeg v1), (v0.2 + (1 : Int32)))) := hD
  exact w_Affix_add_32 X ((upd v0.1 v0.2.toNatClampNeg v1), (v0.2 + (1 : Int32))) ls H locs h (lv_sub hl [] rfl) hP hD hS

set_option maxHeartbeats 4000000 in
set_option maxRecDepth 100000 in
theorem c_Affix_add (l : Launch) (D : va_G) (cC cI : ClassId) (sz : Nat) (a0_0 a0_1 : Nat) (v0 : T_Affix) (v1 : Int32) (out : O_Affix_add) (h : f_Affix_add v0 v1 = some out) : Met l y_Affix_add (.code y_Affix_add b_Affix_add 2 none :: BIG) rm_Affix_add (va_Pc [.ref a0_0, .int v1] (xPre D cC cI (wd_Affix_add cC cI a0_0 a0_1 v0) sz)) (q_Affix_add D cC cI a0_0 a0_1 out (va_A (wd_Affix_add cC cI a0_0 a0_1 v0) sz)) 0 0 (va_A (wd_Affix_add cC cI a0_0 a0_1 v0) sz) := by
  refine Met.ofW (cc := b_Affix_add) (maxL := 2) (ret := none) (by decide) rfl ?_
  intro p e s m args below meth c s₁ B hml hv
  obtain ⟨rfl, rfl, hP, hD0, hG, hZ⟩ := hv
  have hl := lv_entry [.ref a0_0, .int v1] (n := 2) (Nat.le_of_ble_eq_true rfl)
  rw [lg_entry_eq]
  exact w_Affix_add (x_cx B hml hG hZ) v0 v1 h hl hP hD0.self va_S.rf

abbrev wd_Affix_addAll (cC cI : ClassId) (a0_0 a0_1 a1_0 a1_1 : Nat) (v0 : T_Affix) (v1 : T_Affix) : va_W := [(a0_0, .inr (1, [.ref a0_1, .int v0.2])), (a0_1, .inl (cI, 120, .inl v0.1)), (a1_0, .inr (1, [.ref a1_1, .int v1.2])), (a1_1, .inl (cI, 120, .inl v1.1))]
abbrev O_Affix_addAll : Type := T_Affix
abbrev q_Affix_addAll (D : va_G) (cC cI : ClassId) (a0_0 a0_1 a1_0 a1_1 : Nat) (v1 : T_Affix) (out : O_Affix_addAll) (A : Nat → Prop) : Array Value → State → Outcome → State → Prop := va_Qv (fun _ : Unit => True) (fun _ t => va_P D classes (wd_Affix_addAll cC cI a0_0 a0_1 a1_0 a1_1 out v1) t.heap ∧ va_D A (wd_Affix_addAll cC cI a0_0 a0_1 a1_0 a1_1 out v1)) A
abbrev rm_Affix_addAll : Room := { frames := 1, cells := 0, slots := 0, locals := 21 }
def J_Affix_addAll_2 (p : Program) (l : Launch) (e : Env) (s : State) (m : MethodId) (args : Array Value) (below : List Frame) (meth : Method) (c : Code) (A : Nat → Prop) (D : va_G) (cC cI : ClassId) (a0_0 a0_1 a1_0 a1_1 : Nat) (v1 : T_Affix) (out : O_Affix_addAll) (k : T_Affix → Int32 → Option O_Affix_addAll) : Prop := ∀ (v0 : T_Affix) (x2 : Int32) (ls : Array Slot) (H : Heap) (locs : List Loc), k v0 x2 = some out → lv_has ls 3 [(0, .ref a0_0), (1, .ref a1_0), (2, .int x2)] → va_P D classes (wd_Affix_addAll cC cI a0_0 a0_1 a1_0 a1_1 v0 v1) H → va_D A (wd_Affix_addAll cC cI a0_0 a0_1 a1_0 a1_1 v0 v1) → va_S A s.heap H locs → W p l e rm_Affix_addAll s m args below meth c H locs 0 0 (MQ below (q_Affix_addAll D cC cI a0_0 a0_1 a1_0 a1_1 v1 out A) args s 0 0 A) (F0 m 2 ls [])
def f_Affix_addAll_2 (v1 : T_Affix)  : Nat → T_Affix → Int32 → Option O_Affix_addAll
  | 0, _, _ => none
  | n + 1, v0, x2 => (if v1.2 ≤ x2 then some v0 else (f_Affix_at v1 x2).bind (fun o13 => (f_Affix_add v0 o13).bind (fun o16 => (f_Affix_addAll_2 v1 n) o16 (x2 + (1 : Int32)))))
set_option maxHeartbeats 4000000 in
set_option maxRecDepth 100000 in
theorem w_Affix_addAll_2 {p : Program} {l : Launch} {e : Env} {s : State} {m : MethodId} {args : Array Value} {below : List Frame} {meth : Method} {c : Code} {A : Nat → Prop} {D : va_G} {cC cI : ClassId} {a0_0 a0_1 a1_0 a1_1 : Nat} {v1 : T_Affix} (X : xCX p s m args meth c A D cC cI b_Affix_addAll 3 R_Affix none) {out : O_Affix_addAll}   : ∀ n : Nat, J_Affix_addAll_2 p l e s m args below meth c A D cC cI a0_0 a0_1 a1_0 a1_1 v1 out (f_Affix_addAll_2 v1  n) := by
  obtain ⟨hx, hb, hml, hown, htB, ⟨hK, hN⟩, hZ, hA, hr, hlocks⟩ := id X
  intro n
  induction n with
  | zero =>
    intro v0 x2 ls H locs h hl hP hD hS
    cases h
  | succ n ih =>
    intro v0 x2 ls H locs h hl hP hD hS
    refine lv_iload_n hx hb d_Affix_addAll_2 rfl (lv_at hl 2 rfl) ?_
    refine lv_aload_n hx hb d_Affix_addAll_3 rfl (lv_at hl 1 rfl) ?_
    refine va_get (D := D) (ci := 1) (v := .int v1.2) (C := R_Affix) (T := F_Affix) (N := 2) hx hb htB in_Affix hown hK hP 2 rfl rfl 1 (by decide) (htB _ b_6) (fun _ h9 => h9) rfl d_Affix_addAll_4 ?_
    refine lv_icmp_ge (tgt := 25) hx hb d_Affix_addAll_7 rfl (fun hc => ?_) (fun hc => ?_)
    · have h := (if_pos hc).symm.trans h
      obtain rfl := Option.some.inj h
      exact W.vret hx hb hr (fun t ht hW => ⟨⟨(), rfl, trivial, by rw [ht]; exact hP, hD⟩, hS.F ht⟩) hS.2.2 d_Affix_addAll_25 hlocks
    have h := (if_neg hc).symm.trans h
    refine lv_aload_n hx hb d_Affix_addAll_10 rfl (lv_at hl 0 rfl) ?_
    refine lv_aload_n hx hb d_Affix_addAll_11 rfl (lv_at hl 1 rfl) ?_
    refine lv_iload_n hx hb d_Affix_addAll_12 rfl (lv_at hl 2 rfl) ?_
    obtain ⟨o13, ho13, h⟩ := x_bnd h
    refine x_calli (r0 := o13) (ws2 := (wd_Affix_addAll cC cI a0_0 a0_1 a1_0 a1_1 v0 v1)) (x_runV (As := [.int x2]) (rest := [.ref a0_0]) X (c_Affix_at l D cC cI H.size a1_0 a1_1 v1 x2 o13 ho13) b_8 1 (htB _ b_12) (htB _ b_10) (htB _ b_11) (htB _ b_9) ⟨by decide, by decide, by decide +kernel⟩ ⟨(Nat.le_of_ble_eq_true rfl), (Nat.le_of_ble_eq_true rfl)⟩ 2 rfl rfl hP hD hS [2, 3] rfl (by decide) rfl rfl hl.1 rfl rfl (Nat.le_of_ble_eq_true rfl) d_Affix_addAll_13) hP hD hS hA [2, 3] [0, 1] [0, 1, 2, 3] rfl rfl (by decide) (by decide) rfl (by decide) (fun H locs hP hD hS => ?_)
    obtain ⟨o16, ho16, h⟩ := x_bnd h
    refine x_callv (ws2 := (wd_Affix_addAll cC cI a0_0 a0_1 a1_0 a1_1 o16 v1)) (x_runV (As := [.int o13]) (rest := []) X (c_Affix_add l D cC cI H.size a0_0 a0_1 v0 o13 o16 ho16) b_13 1 (htB _ b_16) (htB _ b_14) (htB _ b_15) (htB _ b_9) ⟨by decide, by decide, by decide +kernel⟩ ⟨(Nat.le_of_ble_eq_true rfl), (Nat.le_of_ble_eq_true rfl)⟩ 0 rfl rfl hP hD hS [0, 1] rfl (by decide) rfl rfl hl.1 rfl rfl (Nat.le_of_ble_eq_true rfl) d_Affix_addAll_16) hP hD hS hA [0, 1] [2, 3] [2, 3, 0, 1] rfl rfl (by decide) (by decide) rfl (by decide) (fun H locs hP hD hS => ?_)
    refine lv_iinc (k := 2) (v := (x2 + (1 : Int32))) (lv' := [(2, .int (x2 + (1 : Int32))), (0, .ref a0_0), (1, .ref a1_0)]) hx hb d_Affix_addAll_19 hl rfl (congrArg (fun z => x2 + z) (by decide : Int32.ofInt 1 = (1 : Int32))) (by decide) rfl (fun ls hl => ?_)
    refine lv_goto (tgt := 2) hx hb d_Affix_addAll_22 rfl ?_
    exact ih o16 (x2 + (1 : Int32)) ls H locs h (lv_sub hl [1, 2, 0] rfl) hP hD hS

def f_Affix_addAll (v0 : T_Affix) (v1 : T_Affix) : Option O_Affix_addAll := f_Affix_addAll_2 v1 FU v0 (0 : Int32)
set_option maxHeartbeats 4000000 in
set_option maxRecDepth 100000 in
theorem w_Affix_addAll {p : Program} {l : Launch} {e : Env} {s : State} {m : MethodId} {args : Array Value} {below : List Frame} {meth : Method} {c : Code} {A : Nat → Prop} {D : va_G} {cC cI : ClassId} {a0_0 a0_1 a1_0 a1_1 : Nat} {v1 : T_Affix} (X : xCX p s m args meth c A D cC cI b_Affix_addAll 3 R_Affix none) {out : O_Affix_addAll} (v0 : T_Affix) {ls : Array Slot} {H : Heap} {locs : List Loc} (h : f_Affix_addAll v0 v1 = some out) (hl : lv_has ls 3 [(0, .ref a0_0), (1, .ref a1_0)]) (hP : va_P D classes (wd_Affix_addAll cC cI a0_0 a0_1 a1_0 a1_1 v0 v1) H) (hD : va_D A (wd_Affix_addAll cC cI a0_0 a0_1 a1_0 a1_1 v0 v1)) (hS : va_S A s.heap H locs) : W p l e rm_Affix_addAll s m args below meth c H locs 0 0 (MQ below (q_Affix_addAll D cC cI a0_0 a0_1 a1_0 a1_1 v1 out A) args s 0 0 A) (F0 m 0 ls []) := by
  obtain ⟨hx, hb, hml, hown, htB, ⟨hK, hN⟩, hZ, hA, hr, hlocks⟩ := id X
  refine lv_iconst (v := 0) hx hb d_Affix_addAll_0 (by decide) ?_
  refine lv_istore_n (lv' := [(2, .int (0 : Int32)), (0, .ref a0_0), (1, .ref a1_0)]) hx hb d_Affix_addAll_1 rfl hl (by decide) rfl (fun ls hl => ?_)
  exact w_Affix_addAll_2 X FU v0 (0 : Int32) ls H locs h (lv_sub hl [1, 2, 0] rfl) hP hD hS

set_option maxHeartbeats 4000000 in
set_option maxRecDepth 100000 in
theorem c_Affix_addAll (l : Launch) (D : va_G) (cC cI : ClassId) (sz : Nat) (a0_0 a0_1 a1_0 a1_1 : Nat) (v0 : T_Affix) (v1 : T_Affix) (out : O_Affix_addAll) (h : f_Affix_addAll v0 v1 = some out) : Met l y_Affix_addAll (.code y_Affix_addAll b_Affix_addAll 3 none :: BIG) rm_Affix_addAll (va_Pc [.ref a0_0, .ref a1_0] (xPre D cC cI (wd_Affix_addAll cC cI a0_0 a0_1 a1_0 a1_1 v0 v1) sz)) (q_Affix_addAll D cC cI a0_0 a0_1 a1_0 a1_1 v1 out (va_A (wd_Affix_addAll cC cI a0_0 a0_1 a1_0 a1_1 v0 v1) sz)) 0 0 (va_A (wd_Affix_addAll cC cI a0_0 a0_1 a1_0 a1_1 v0 v1) sz) := by
  refine Met.ofW (cc := b_Affix_addAll) (maxL := 3) (ret := none) (by decide) rfl ?_
  intro p e s m args below meth c s₁ B hml hv
  obtain ⟨rfl, rfl, hP, hD0, hG, hZ⟩ := hv
  have hl := lv_entry [.ref a0_0, .ref a1_0] (n := 3) (Nat.le_of_ble_eq_true rfl)
  rw [lg_entry_eq]
  exact w_Affix_addAll (x_cx B hml hG hZ) v0 h hl hP hD0.self va_S.rf

abbrev wd_Affix_hasPercent (cC cI : ClassId) (a0_0 a0_1 : Nat) (v0 : T_Affix) : va_W := [(a0_0, .inr (1, [.ref a0_1, .int v0.2])), (a0_1, .inl (cI, 120, .inl v0.1))]
abbrev O_Affix_hasPercent : Type := Int32
abbrev q_Affix_hasPercent (D : va_G) (cC cI : ClassId) (a0_0 a0_1 : Nat) (v0 : T_Affix) (out : O_Affix_hasPercent) (A : Nat → Prop) : Array Value → State → Outcome → State → Prop := va_Qi (fun r (_ : Unit) => r = out) (fun _ t => va_P D classes (wd_Affix_hasPercent cC cI a0_0 a0_1 v0) t.heap ∧ va_D A (wd_Affix_hasPercent cC cI a0_0 a0_1 v0)) A
abbrev rm_Affix_hasPercent : Room := { frames := 0, cells := 0, slots := 0, locals := 0 }
def J_Affix_hasPercent_2 (p : Program) (l : Launch) (e : Env) (s : State) (m : MethodId) (args : Array Value) (below : List Frame) (meth : Method) (c : Code) (A : Nat → Prop) (D : va_G) (cC cI : ClassId) (a0_0 a0_1 : Nat) (v0 : T_Affix) (out : O_Affix_hasPercent) (k : Int32 → Option O_Affix_hasPercent) : Prop := ∀ (x1 : Int32) (ls : Array Slot) (H : Heap) (locs : List Loc), k x1 = some out → lv_has ls 2 [(0, .ref a0_0), (1, .int x1)] → va_P D classes (wd_Affix_hasPercent cC cI a0_0 a0_1 v0) H → va_D A (wd_Affix_hasPercent cC cI a0_0 a0_1 v0) → va_S A s.heap H locs → W p l e rm_Affix_hasPercent s m args below meth c H locs 0 0 (MQ below (q_Affix_hasPercent D cC cI a0_0 a0_1 v0 out A) args s 0 0 A) (F0 m 2 ls [])
def f_Affix_hasPercent_2 (v0 : T_Affix)  : Nat → Int32 → Option O_Affix_hasPercent
  | 0, _ => none
  | n + 1, x1 => (if v0.2 ≤ x1 then some (0 : Int32) else if ix x1 120 then (if (v0.1 x1.toNatClampNeg) = (256 : Int32) then some (1 : Int32) else (f_Affix_hasPercent_2 v0 n) (x1 + (1 : Int32))) else none)
set_option maxHeartbeats 4000000 in
set_option maxRecDepth 100000 in
theorem w_Affix_hasPercent_2 {p : Program} {l : Launch} {e : Env} {s : State} {m : MethodId} {args : Array Value} {below : List Frame} {meth : Method} {c : Code} {A : Nat → Prop} {D : va_G} {cC cI : ClassId} {a0_0 a0_1 : Nat} {v0 : T_Affix} (X : xCX p s m args meth c A D cC cI b_Affix_hasPercent 2 R_Affix (some .boolean)) {out : O_Affix_hasPercent}   : ∀ n : Nat, J_Affix_hasPercent_2 p l e s m args below meth c A D cC cI a0_0 a0_1 v0 out (f_Affix_hasPercent_2 v0  n) := by
  obtain ⟨hx, hb, hml, hown, htB, ⟨hK, hN⟩, hZ, hA, hr, hlocks⟩ := id X
  intro n
  induction n with
  | zero =>
    intro x1 ls H locs h hl hP hD hS
    cases h
  | succ n ih =>
    intro x1 ls H locs h hl hP hD hS
    refine lv_iload_n hx hb d_Affix_hasPercent_2 rfl (lv_at hl 1 rfl) ?_
    refine lv_aload_n hx hb d_Affix_hasPercent_3 rfl (lv_at hl 0 rfl) ?_
    refine va_get (D := D) (ci := 1) (v := .int v0.2) (C := R_Affix) (T := F_Affix) (N := 2) hx hb htB in_Affix hown hK hP 0 rfl rfl 1 (by decide) (htB _ b_6) (fun _ h9 => h9) rfl d_Affix_hasPercent_4 ?_
    refine lv_icmp_ge (tgt := 30) hx hb d_Affix_hasPercent_7 rfl (fun hc => ?_) (fun hc => ?_)
    · have h := (if_pos hc).symm.trans h
      refine lv_iconst (v := 0) hx hb d_Affix_hasPercent_30 (by decide) ?_
      obtain rfl := Option.some.inj h
      exact W.zret (v := (0 : Int32)) (ty := .boolean) hx hb hr rfl (fun t ht hW => ⟨⟨(0 : Int32), (), rfl, rfl, by rw [ht]; exact hP, hD⟩, hS.F ht⟩) hS.2.2 d_Affix_hasPercent_31 hlocks
    have h := (if_neg hc).symm.trans h
    refine lv_aload_n hx hb d_Affix_hasPercent_10 rfl (lv_at hl 0 rfl) ?_
    refine va_get (D := D) (ci := 1) (v := .ref a0_1) (C := R_Affix) (T := F_Affix) (N := 2) hx hb htB in_Affix hown hK hP 0 rfl rfl 0 (by decide) (htB _ b_7) (fun _ h9 => h9) rfl d_Affix_hasPercent_11 ?_
    refine lv_iload_n hx hb d_Affix_hasPercent_14 rfl (lv_at hl 1 rfl) ?_
    obtain ⟨hc, h⟩ := x_chk h
    refine va_iald hx hb hK hP 1 1 rfl rfl hc d_Affix_hasPercent_15 ?_
    refine lv_sipush (v := 256) hx hb d_Affix_hasPercent_16 (by decide) ?_
    refine lv_icmp_ne (tgt := 24) hx hb d_Affix_hasPercent_19 rfl (fun hc => ?_) (fun hc => ?_)
    · have h := (if_neg hc).symm.trans h
      refine lv_iinc (k := 1) (v := (x1 + (1 : Int32))) (lv' := [(1, .int (x1 + (1 : Int32))), (0, .ref a0_0)]) hx hb d_Affix_hasPercent_24 hl rfl (congrArg (fun z => x1 + z) (by decide : Int32.ofInt 1 = (1 : Int32))) (by decide) rfl (fun ls hl => ?_)
      refine lv_goto (tgt := 2) hx hb d_Affix_hasPercent_27 rfl ?_
      exact ih (x1 + (1 : Int32)) ls H locs h (lv_sub hl [1, 0] rfl) hP hD hS
    have h := (if_pos hc).symm.trans h
    refine lv_iconst (v := 1) hx hb d_Affix_hasPercent_22 (by decide) ?_
    obtain rfl := Option.some.inj h
    exact W.zret (v := (1 : Int32)) (ty := .boolean) hx hb hr rfl (fun t ht hW => ⟨⟨(1 : Int32), (), rfl, rfl, by rw [ht]; exact hP, hD⟩, hS.F ht⟩) hS.2.2 d_Affix_hasPercent_23 hlocks

def f_Affix_hasPercent (v0 : T_Affix) : Option O_Affix_hasPercent := f_Affix_hasPercent_2 v0 FU (0 : Int32)
set_option maxHeartbeats 4000000 in
set_option maxRecDepth 100000 in
theorem w_Affix_hasPercent {p : Program} {l : Launch} {e : Env} {s : State} {m : MethodId} {args : Array Value} {below : List Frame} {meth : Method} {c : Code} {A : Nat → Prop} {D : va_G} {cC cI : ClassId} {a0_0 a0_1 : Nat} {v0 : T_Affix} (X : xCX p s m args meth c A D cC cI b_Affix_hasPercent 2 R_Affix (some .boolean)) {out : O_Affix_hasPercent}  {ls : Array Slot} {H : Heap} {locs : List Loc} (h : f_Affix_hasPercent v0 = some out) (hl : lv_has ls 2 [(0, .ref a0_0)]) (hP : va_P D classes (wd_Affix_hasPercent cC cI a0_0 a0_1 v0) H) (hD : va_D A (wd_Affix_hasPercent cC cI a0_0 a0_1 v0)) (hS : va_S A s.heap H locs) : W p l e rm_Affix_hasPercent s m args below meth c H locs 0 0 (MQ below (q_Affix_hasPercent D cC cI a0_0 a0_1 v0 out A) args s 0 0 A) (F0 m 0 ls []) := by
  obtain ⟨hx, hb, hml, hown, htB, ⟨hK, hN⟩, hZ, hA, hr, hlocks⟩ := id X
  refine lv_iconst (v := 0) hx hb d_Affix_hasPercent_0 (by decide) ?_
  refine lv_istore_n (lv' := [(1, .int (0 : Int32)), (0, .ref a0_0)]) hx hb d_Affix_hasPercent_1 rfl hl (by decide) rfl (fun ls hl => ?_)
  exact w_Affix_hasPercent_2 X FU (0 : Int32) ls H locs h (lv_sub hl [1, 0] rfl) hP hD hS

set_option maxHeartbeats 4000000 in
set_option maxRecDepth 100000 in
theorem c_Affix_hasPercent (l : Launch) (D : va_G) (cC cI : ClassId) (sz : Nat) (a0_0 a0_1 : Nat) (v0 : T_Affix) (out : O_Affix_hasPercent) (h : f_Affix_hasPercent v0 = some out) : Met l y_Affix_hasPercent (.code y_Affix_hasPercent b_Affix_hasPercent 2 (some .boolean) :: BIG) rm_Affix_hasPercent (va_Pc [.ref a0_0] (xPre D cC cI (wd_Affix_hasPercent cC cI a0_0 a0_1 v0) sz)) (q_Affix_hasPercent D cC cI a0_0 a0_1 v0 out (va_A (wd_Affix_hasPercent cC cI a0_0 a0_1 v0) sz)) 0 0 (va_A (wd_Affix_hasPercent cC cI a0_0 a0_1 v0) sz) := by
  refine Met.ofW (cc := b_Affix_hasPercent) (maxL := 2) (ret := (some .boolean)) (by decide) rfl ?_
  intro p e s m args below meth c s₁ B hml hv
  obtain ⟨rfl, rfl, hP, hD0, hG, hZ⟩ := hv
  have hl := lv_entry [.ref a0_0] (n := 2) (Nat.le_of_ble_eq_true rfl)
  rw [lg_entry_eq]
  exact w_Affix_hasPercent (x_cx B hml hG hZ) h hl hP hD0.self va_S.rf

abbrev wd_Affix_endsAs (cC cI : ClassId) (a0_0 a0_1 a1_0 a1_1 : Nat) (v0 : T_Affix) (v1 : T_Affix) : va_W := [(a0_0, .inr (1, [.ref a0_1, .int v0.2])), (a0_1, .inl (cI, 120, .inl v0.1)), (a1_0, .inr (1, [.ref a1_1, .int v1.2])), (a1_1, .inl (cI, 120, .inl v1.1))]
abbrev O_Affix_endsAs : Type := Int32
abbrev q_Affix_endsAs (D : va_G) (cC cI : ClassId) (a0_0 a0_1 a1_0 a1_1 : Nat) (v0 : T_Affix) (v1 : T_Affix) (out : O_Affix_endsAs) (A : Nat → Prop) : Array Value → State → Outcome → State → Prop := va_Qi (fun r (_ : Unit) => r = out) (fun _ t => va_P D classes (wd_Affix_endsAs cC cI a0_0 a0_1 a1_0 a1_1 v0 v1) t.heap ∧ va_D A (wd_Affix_endsAs cC cI a0_0 a0_1 a1_0 a1_1 v0 v1)) A
abbrev rm_Affix_endsAs : Room := { frames := 1, cells := 0, slots := 0, locals := 21 }
def J_Affix_endsAs_17 (p : Program) (l : Launch) (e : Env) (s : State) (m : MethodId) (args : Array Value) (below : List Frame) (meth : Method) (c : Code) (A : Nat → Prop) (D : va_G) (cC cI : ClassId) (a0_0 a0_1 a1_0 a1_1 : Nat) (v0 : T_Affix) (v1 : T_Affix) (out : O_Affix_endsAs) (k : Int32 → Int32 → Option O_Affix_endsAs) : Prop := ∀ (x2 : Int32) (x3 : Int32) (ls : Array Slot) (H : Heap) (locs : List Loc), k x2 x3 = some out → lv_has ls 4 [(0, .ref a0_0), (1, .ref a1_0), (2, .int x2), (3, .int x3)] → va_P D classes (wd_Affix_endsAs cC cI a0_0 a0_1 a1_0 a1_1 v0 v1) H → va_D A (wd_Affix_endsAs cC cI a0_0 a0_1 a1_0 a1_1 v0 v1) → va_S A s.heap H locs → W p l e rm_Affix_endsAs s m args below meth c H locs 0 0 (MQ below (q_Affix_endsAs D cC cI a0_0 a0_1 a1_0 a1_1 v0 v1 out A) args s 0 0 A) (F0 m 17 ls [])
def f_Affix_endsAs_17 (v0 : T_Affix) (v1 : T_Affix)  : Nat → Int32 → Int32 → Option O_Affix_endsAs
  | 0, _, _ => none
  | n + 1, x2, x3 => (if v1.2 ≤ x3 then some (1 : Int32) else (f_Affix_at v0 (x2 + x3)).bind (fun o29 => (f_Affix_at v1 x3).bind (fun o34 => (if o29 = o34 then (f_Affix_endsAs_17 v0 v1 n) x2 (x3 + (1 : Int32)) else some (0 : Int32)))))
set_option maxHeartbeats 4000000 in
set_option maxRecDepth 100000 in
theorem w_Affix_endsAs_17 {p : Program} {l : Launch} {e : Env} {s : State} {m : MethodId} {args : Array Value} {below : List Frame} {meth : Method} {c : Code} {A : Nat → Prop} {D : va_G} {cC cI : ClassId} {a0_0 a0_1 a1_0 a1_1 : Nat} {v0 : T_Affix} {v1 : T_Affix} (X : xCX p s m args meth c A D cC cI b_Affix_endsAs 4 R_Affix (some .boolean)) {out : O_Affix_endsAs}   : ∀ n : Nat, J_Affix_endsAs_17 p l e s m args below meth c A D cC cI a0_0 a0_1 a1_0 a1_1 v0 v1 out (f_Affix_endsAs_17 v0 v1  n) := by
  obtain ⟨hx, hb, hml, hown, htB, ⟨hK, hN⟩, hZ, hA, hr, hlocks⟩ := id X
  intro n
  induction n with
  | zero =>
    intro x2 x3 ls H locs h hl hP hD hS
    cases h
  | succ n ih =>
    intro x2 x3 ls H locs h hl hP hD hS
    refine lv_iload_n hx hb d_Affix_endsAs_17 rfl (lv_at hl 3 rfl) ?_
    refine lv_aload_n hx hb d_Affix_endsAs_18 rfl (lv_at hl 1 rfl) ?_
    refine va_get (D := D) (ci := 1) (v := .int v1.2) (C := R_Affix) (T := F_Affix) (N := 2) hx hb htB in_Affix hown hK hP 2 rfl rfl 1 (by decide) (htB _ b_6) (fun _ h9 => h9) rfl d_Affix_endsAs_19 ?_
    refine lv_icmp_ge (tgt := 48) hx hb d_Affix_endsAs_22 rfl (fun hc => ?_) (fun hc => ?_)
    · have h := (if_pos hc).symm.trans h
      refine lv_iconst (v := 1) hx hb d_Affix_endsAs_48 (by decide) ?_
      obtain rfl := Option.some.inj h
      exact W.zret (v := (1 : Int32)) (ty := .boolean) hx hb hr rfl (fun t ht hW => ⟨⟨(1 : Int32), (), rfl, rfl, by rw [ht]; exact hP, hD⟩, hS.F ht⟩) hS.2.2 d_Affix_endsAs_49 hlocks
    have h := (if_neg hc).symm.trans h
    refine lv_aload_n hx hb d_Affix_endsAs_25 rfl (lv_at hl 0 rfl) ?_
    refine lv_iload_n hx hb d_Affix_endsAs_26 rfl (lv_at hl 2 rfl) ?_
    refine lv_iload_n hx hb d_Affix_endsAs_27 rfl (lv_at hl 3 rfl) ?_
    refine lv_iadd hx hb d_Affix_endsAs_28 ?_
    obtain ⟨o29, ho29, h⟩ := x_bnd h
    refine x_calli (r0 := o29) (ws2 := (wd_Affix_endsAs cC cI a0_0 a0_1 a1_0 a1_1 v0 v1)) (x_runV (As := [.int (x2 + x3)]) (rest := []) X (c_Affix_at l D cC cI H.size a0_0 a0_1 v0 (x2 + x3) o29 ho29) b_8 1 (htB _ b_12) (htB _ b_10) (htB _ b_11) (htB _ b_9) ⟨by decide, by decide, by decide +kernel⟩ ⟨(Nat.le_of_ble_eq_true rfl), (Nat.le_of_ble_eq_true rfl)⟩ 0 rfl rfl hP hD hS [0, 1] rfl (by decide) rfl rfl hl.1 rfl rfl (Nat.le_of_ble_eq_true rfl) d_Affix_endsAs_29) hP hD hS hA [0, 1] [2, 3] [2, 3, 0, 1] rfl rfl (by decide) (by decide) rfl (by decide) (fun H locs hP hD hS => ?_)
    refine lv_aload_n hx hb d_Affix_endsAs_32 rfl (lv_at hl 1 rfl) ?_
    refine lv_iload_n hx hb d_Affix_endsAs_33 rfl (lv_at hl 3 rfl) ?_
    obtain ⟨o34, ho34, h⟩ := x_bnd h
    refine x_calli (r0 := o34) (ws2 := (wd_Affix_endsAs cC cI a0_0 a0_1 a1_0 a1_1 v0 v1)) (x_runV (As := [.int x3]) (rest := [.int o29]) X (c_Affix_at l D cC cI H.size a1_0 a1_1 v1 x3 o34 ho34) b_8 1 (htB _ b_12) (htB _ b_10) (htB _ b_11) (htB _ b_9) ⟨by decide, by decide, by decide +kernel⟩ ⟨(Nat.le_of_ble_eq_true rfl), (Nat.le_of_ble_eq_true rfl)⟩ 2 rfl rfl hP hD hS [2, 3] rfl (by decide) rfl rfl hl.1 rfl rfl (Nat.le_of_ble_eq_true rfl) d_Affix_endsAs_34) hP hD hS hA [2, 3] [0, 1] [0, 1, 2, 3] rfl rfl (by decide) (by decide) rfl (by decide) (fun H locs hP hD hS => ?_)
    refine lv_icmp_eq (tgt := 42) hx hb d_Affix_endsAs_37 rfl (fun hc => ?_) (fun hc => ?_)
    · have h := (if_pos hc).symm.trans h
      refine lv_iinc (k := 3) (v := (x3 + (1 : Int32))) (lv' := [(3, .int (x3 + (1 : Int32))), (0, .ref a0_0), (1, .ref a1_0), (2, .int x2)]) hx hb d_Affix_endsAs_42 hl rfl (congrArg (fun z => x3 + z) (by decide : Int32.ofInt 1 = (1 : Int32))) (by decide) rfl (fun ls hl => ?_)
      refine lv_goto (tgt := 17) hx hb d_Affix_endsAs_45 rfl ?_
      exact ih x2 (x3 + (1 : Int32)) ls H locs h (lv_sub hl [1, 2, 3, 0] rfl) hP hD hS
    have h := (if_neg hc).symm.trans h
    refine lv_iconst (v := 0) hx hb d_Affix_endsAs_40 (by decide) ?_
    obtain rfl := Option.some.inj h
    exact W.zret (v := (0 : Int32)) (ty := .boolean) hx hb hr rfl (fun t ht hW => ⟨⟨(0 : Int32), (), rfl, rfl, by rw [ht]; exact hP, hD⟩, hS.F ht⟩) hS.2.2 d_Affix_endsAs_41 hlocks

def f_Affix_endsAs (v0 : T_Affix) (v1 : T_Affix) (v2 : Int32) : Option O_Affix_endsAs := (if (v0.2 - v2) = v1.2 then f_Affix_endsAs_17 v0 v1 FU v2 (0 : Int32) else some (0 : Int32))
set_option maxHeartbeats 4000000 in
set_option maxRecDepth 100000 in
theorem w_Affix_endsAs {p : Program} {l : Launch} {e : Env} {s : State} {m : MethodId} {args : Array Value} {below : List Frame} {meth : Method} {c : Code} {A : Nat → Prop} {D : va_G} {cC cI : ClassId} {a0_0 a0_1 a1_0 a1_1 : Nat} {v0 : T_Affix} {v1 : T_Affix} (X : xCX p s m args meth c A D cC cI b_Affix_endsAs 4 R_Affix (some .boolean)) {out : O_Affix_endsAs} (v2 : Int32) {ls : Array Slot} {H : Heap} {locs : List Loc} (h : f_Affix_endsAs v0 v1 v2 = some out) (hl : lv_has ls 4 [(0, .ref a0_0), (1, .ref a1_0), (2, .int v2)]) (hP : va_P D classes (wd_Affix_endsAs cC cI a0_0 a0_1 a1_0 a1_1 v0 v1) H) (hD : va_D A (wd_Affix_endsAs cC cI a0_0 a0_1 a1_0 a1_1 v0 v1)) (hS : va_S A s.heap H locs) : W p l e rm_Affix_endsAs s m args below meth c H locs 0 0 (MQ below (q_Affix_endsAs D cC cI a0_0 a0_1 a1_0 a1_1 v0 v1 out A) args s 0 0 A) (F0 m 0 ls []) := by
  obtain ⟨hx, hb, hml, hown, htB, ⟨hK, hN⟩, hZ, hA, hr, hlocks⟩ := id X
  refine lv_aload_n hx hb d_Affix_endsAs_0 rfl (lv_at hl 0 rfl) ?_
  refine va_get (D := D) (ci := 1) (v := .int v0.2) (C := R_Affix) (T := F_Affix) (N := 2) hx hb htB in_Affix hown hK hP 0 rfl rfl 1 (by decide) (htB _ b_6) (fun _ h9 => h9) rfl d_Affix_endsAs_1 ?_
  refine lv_iload_n hx hb d_Affix_endsAs_4 rfl (lv_at hl 2 rfl) ?_
  refine lv_isub hx hb d_Affix_endsAs_5 ?_
  refine lv_aload_n hx hb d_Affix_endsAs_6 rfl (lv_at hl 1 rfl) ?_
  refine va_get (D := D) (ci := 1) (v := .int v1.2) (C := R_Affix) (T := F_Affix) (N := 2) hx hb htB in_Affix hown hK hP 2 rfl rfl 1 (by decide) (htB _ b_6) (fun _ h9 => h9) rfl d_Affix_endsAs_7 ?_
  refine lv_icmp_eq (tgt := 15) hx hb d_Affix_endsAs_10 rfl (fun hc => ?_) (fun hc => ?_)
  · have h := (if_pos hc).symm.trans h
    refine lv_iconst (v := 0) hx hb d_Affix_endsAs_15 (by decide) ?_
    refine lv_istore_n (lv' := [(3, .int (0 : Int32)), (0, .ref a0_0), (1, .ref a1_0), (2, .int v2)]) hx hb d_Affix_endsAs_16 rfl hl (by decide) rfl (fun ls hl => ?_)
    exact w_Affix_endsAs_17 X FU v2 (0 : Int32) ls H locs h (lv_sub hl [1, 2, 3, 0] rfl) hP hD hS
  have h := (if_neg hc).symm.trans h
  refine lv_iconst (v := 0) hx hb d_Affix_endsAs_13 (by decide) ?_
  obtain rfl := Option.some.inj h
  exact W.zret (v := (0 : Int32)) (ty := .boolean) hx hb hr rfl (fun t ht hW => ⟨⟨(0 : Int32), (), rfl, rfl, by rw [ht]; exact hP, hD⟩, hS.F ht⟩) hS.2.2 d_Affix_endsAs_14 hlocks

set_option maxHeartbeats 4000000 in
set_option maxRecDepth 100000 in
theorem c_Affix_endsAs (l : Launch) (D : va_G) (cC cI : ClassId) (sz : Nat) (a0_0 a0_1 a1_0 a1_1 : Nat) (v0 : T_Affix) (v1 : T_Affix) (v2 : Int32) (out : O_Affix_endsAs) (h : f_Affix_endsAs v0 v1 v2 = some out) : Met l y_Affix_endsAs (.code y_Affix_endsAs b_Affix_endsAs 4 (some .boolean) :: BIG) rm_Affix_endsAs (va_Pc [.ref a0_0, .ref a1_0, .int v2] (xPre D cC cI (wd_Affix_endsAs cC cI a0_0 a0_1 a1_0 a1_1 v0 v1) sz)) (q_Affix_endsAs D cC cI a0_0 a0_1 a1_0 a1_1 v0 v1 out (va_A (wd_Affix_endsAs cC cI a0_0 a0_1 a1_0 a1_1 v0 v1) sz)) 0 0 (va_A (wd_Affix_endsAs cC cI a0_0 a0_1 a1_0 a1_1 v0 v1) sz) := by
  refine Met.ofW (cc := b_Affix_endsAs) (maxL := 4) (ret := (some .boolean)) (by decide) rfl ?_
  intro p e s m args below meth c s₁ B hml hv
  obtain ⟨rfl, rfl, hP, hD0, hG, hZ⟩ := hv
  have hl := lv_entry [.ref a0_0, .ref a1_0, .int v2] (n := 4) (Nat.le_of_ble_eq_true rfl)
  rw [lg_entry_eq]
  exact w_Affix_endsAs (x_cx B hml hG hZ) v2 h hl hP hD0.self va_S.rf

abbrev wd_Affix_shownAt (cC cI : ClassId) (a0_0 a0_1 : Nat) (v0 : T_Affix) : va_W := [(a0_0, .inr (1, [.ref a0_1, .int v0.2])), (a0_1, .inl (cI, 120, .inl v0.1))]
abbrev O_Affix_shownAt : Type := Int32
abbrev q_Affix_shownAt (D : va_G) (cC cI : ClassId) (a0_0 a0_1 : Nat) (v0 : T_Affix) (out : O_Affix_shownAt) (A : Nat → Prop) : Array Value → State → Outcome → State → Prop := va_Qi (fun r (_ : Unit) => r = out) (fun _ t => va_P D classes (wd_Affix_shownAt cC cI a0_0 a0_1 v0) t.heap ∧ va_D A (wd_Affix_shownAt cC cI a0_0 a0_1 v0)) A
abbrev rm_Affix_shownAt : Room := { frames := 1, cells := 0, slots := 0, locals := 21 }
def J_Affix_shownAt_19 (p : Program) (l : Launch) (e : Env) (s : State) (m : MethodId) (args : Array Value) (below : List Frame) (meth : Method) (c : Code) (A : Nat → Prop) (D : va_G) (cC cI : ClassId) (a0_0 a0_1 : Nat) (v0 : T_Affix) (out : O_Affix_shownAt) (k : Int32 → Option O_Affix_shownAt) : Prop := ∀ (s0 : Int32) (ls : Array Slot) (H : Heap) (locs : List Loc), k s0 = some out → lv_has ls 3 [] → va_P D classes (wd_Affix_shownAt cC cI a0_0 a0_1 v0) H → va_D A (wd_Affix_shownAt cC cI a0_0 a0_1 v0) → va_S A s.heap H locs → W p l e rm_Affix_shownAt s m args below meth c H locs 0 0 (MQ below (q_Affix_shownAt D cC cI a0_0 a0_1 v0 out A) args s 0 0 A) (F0 m 19 ls [.int s0])
def f_Affix_shownAt_19 (v0 : T_Affix) (s0 : Int32) : Option O_Affix_shownAt := some s0
set_option maxHeartbeats 4000000 in
set_option maxRecDepth 100000 in
theorem w_Affix_shownAt_19 {p : Program} {l : Launch} {e : Env} {s : State} {m : MethodId} {args : Array Value} {below : List Frame} {meth : Method} {c : Code} {A : Nat → Prop} {D : va_G} {cC cI : ClassId} {a0_0 a0_1 : Nat} {v0 : T_Affix} (X : xCX p s m args meth c A D cC cI b_Affix_shownAt 3 R_Affix (some .int)) {out : O_Affix_shownAt}   : J_Affix_shownAt_19 p l e s m args below meth c A D cC cI a0_0 a0_1 v0 out (f_Affix_shownAt_19 v0 ) := by
  obtain ⟨hx, hb, hml, hown, htB, ⟨hK, hN⟩, hZ, hA, hr, hlocks⟩ := id X
  intro s0 ls H locs h hl hP hD hS
  obtain rfl := Option.some.inj h
  exact W.iret (v := s0) hx hb hr (fun t ht hW => ⟨⟨s0, (), rfl, rfl, by rw [ht]; exact hP, hD⟩, hS.F ht⟩) hS.2.2 d_Affix_shownAt_19 hlocks

def f_Affix_shownAt (v0 : T_Affix) (v1 : Int32) : Option O_Affix_shownAt := (f_Affix_at v0 v1).bind (fun o2 => (if o2 = (256 : Int32) then f_Affix_shownAt_19 v0 (37 : Int32) else f_Affix_shownAt_19 v0 o2))
set_option maxHeartbeats 4000000 in
set_option maxRecDepth 100000 in
theorem w_Affix_shownAt {p : Program} {l : Launch} {e : Env} {s : State} {m : MethodId} {args : Array Value} {below : List Frame} {meth : Method} {c : Code} {A : Nat → Prop} {D : va_G} {cC cI : ClassId} {a0_0 a0_1 : Nat} {v0 : T_Affix} (X : xCX p s m args meth c A D cC cI b_Affix_shownAt 3 R_Affix (some .int)) {out : O_Affix_shownAt} (v1 : Int32) {ls : Array Slot} {H : Heap} {locs : List Loc} (h : f_Affix_shownAt v0 v1 = some out) (hl : lv_has ls 3 [(0, .ref a0_0), (1, .int v1)]) (hP : va_P D classes (wd_Affix_shownAt cC cI a0_0 a0_1 v0) H) (hD : va_D A (wd_Affix_shownAt cC cI a0_0 a0_1 v0)) (hS : va_S A s.heap H locs) : W p l e rm_Affix_shownAt s m args below meth c H locs 0 0 (MQ below (q_Affix_shownAt D cC cI a0_0 a0_1 v0 out A) args s 0 0 A) (F0 m 0 ls []) := by
  obtain ⟨hx, hb, hml, hown, htB, ⟨hK, hN⟩, hZ, hA, hr, hlocks⟩ := id X
  refine lv_aload_n hx hb d_Affix_shownAt_0 rfl (lv_at hl 0 rfl) ?_
  refine lv_iload_n hx hb d_Affix_shownAt_1 rfl (lv_at hl 1 rfl) ?_
  obtain ⟨o2, ho2, h⟩ := x_bnd h
  refine x_calli (r0 := o2) (ws2 := (wd_Affix_shownAt cC cI a0_0 a0_1 v0)) (x_runV (As := [.int v1]) (rest := []) X (c_Affix_at l D cC cI H.size a0_0 a0_1 v0 v1 o2 ho2) b_8 1 (htB _ b_12) (htB _ b_10) (htB _ b_11) (htB _ b_9) ⟨by decide, by decide, by decide +kernel⟩ ⟨(Nat.le_of_ble_eq_true rfl), (Nat.le_of_ble_eq_true rfl)⟩ 0 rfl rfl hP hD hS [0, 1] rfl (by decide) rfl rfl hl.1 rfl rfl (Nat.le_of_ble_eq_true rfl) d_Affix_shownAt_2) hP hD hS hA [0, 1] [] [0, 1] rfl rfl (by decide) (by decide) rfl (by decide) (fun H locs hP hD hS => ?_)
  refine lv_istore_n (lv' := [(2, .int o2), (0, .ref a0_0), (1, .int v1)]) hx hb d_Affix_shownAt_5 rfl hl (by decide) rfl (fun ls hl => ?_)
  refine lv_iload_n hx hb d_Affix_shownAt_6 rfl (lv_at hl 0 rfl) ?_
  refine lv_sipush (v := 256) hx hb d_Affix_shownAt_7 (by decide) ?_
  refine lv_icmp_ne (tgt := 18) hx hb d_Affix_shownAt_10 rfl (fun hc => ?_) (fun hc => ?_)
  · have h := (if_neg hc).symm.trans h
    refine lv_iload_n hx hb d_Affix_shownAt_18 rfl (lv_at hl 0 rfl) ?_
    exact w_Affix_shownAt_19 X o2 ls H locs h (lv_sub hl [] rfl) hP hD hS
  have h := (if_pos hc).symm.trans h
  refine lv_bipush (v := 37) hx hb d_Affix_shownAt_13 (by decide) ?_
  refine lv_goto (tgt := 19) hx hb d_Affix_shownAt_15 rfl ?_
  exact w_Affix_shownAt_19 X (37 : Int32) ls H locs h (lv_sub hl [] rfl) hP hD hS

set_option maxHeartbeats 4000000 in
set_option maxRecDepth 100000 in
theorem c_Affix_shownAt (l : Launch) (D : va_G) (cC cI : ClassId) (sz : Nat) (a0_0 a0_1 : Nat) (v0 : T_Affix) (v1 : Int32) (out : O_Affix_shownAt) (h : f_Affix_shownAt v0 v1 = some out) : Met l y_Affix_shownAt (.code y_Affix_shownAt b_Affix_shownAt 3 (some .int) :: BIG) rm_Affix_shownAt (va_Pc [.ref a0_0, .int v1] (xPre D cC cI (wd_Affix_shownAt cC cI a0_0 a0_1 v0) sz)) (q_Affix_shownAt D cC cI a0_0 a0_1 v0 out (va_A (wd_Affix_shownAt cC cI a0_0 a0_1 v0) sz)) 0 0 (va_A (wd_Affix_shownAt cC cI a0_0 a0_1 v0) sz) := by
  refine Met.ofW (cc := b_Affix_shownAt) (maxL := 3) (ret := (some .int)) (by decide) rfl ?_
  intro p e s m args below meth c s₁ B hml hv
  obtain ⟨rfl, rfl, hP, hD0, hG, hZ⟩ := hv
  have hl := lv_entry [.ref a0_0, .int v1] (n := 3) (Nat.le_of_ble_eq_true rfl)
  rw [lg_entry_eq]
  exact w_Affix_shownAt (x_cx B hml hG hZ) v1 h hl hP hD0.self va_S.rf

abbrev wd_Affix_show (cC cI : ClassId) (a0_0 a0_1 a1_0 a1_1 : Nat) (v0 : T_Affix) (v1 : T_Row) : va_W := [(a0_0, .inr (1, [.ref a0_1, .int v0.2])), (a0_1, .inl (cI, 120, .inl v0.1)), (a1_0, .inr (0, [.ref a1_1, .int v1.2])), (a1_1, .inl (cC, 120, .inl v1.1))]
abbrev O_Affix_show : Type := T_Row
abbrev q_Affix_show (D : va_G) (cC cI : ClassId) (a0_0 a0_1 a1_0 a1_1 : Nat) (v0 : T_Affix) (out : O_Affix_show) (A : Nat → Prop) : Array Value → State → Outcome → State → Prop := va_Qv (fun _ : Unit => True) (fun _ t => va_P D classes (wd_Affix_show cC cI a0_0 a0_1 a1_0 a1_1 v0 out) t.heap ∧ va_D A (wd_Affix_show cC cI a0_0 a0_1 a1_0 a1_1 v0 out)) A
abbrev rm_Affix_show : Room := { frames := 2, cells := 0, slots := 0, locals := 43 }
def J_Affix_show_2 (p : Program) (l : Launch) (e : Env) (s : State) (m : MethodId) (args : Array Value) (below : List Frame) (meth : Method) (c : Code) (A : Nat → Prop) (D : va_G) (cC cI : ClassId) (a0_0 a0_1 a1_0 a1_1 : Nat) (v0 : T_Affix) (out : O_Affix_show) (k : T_Row → Int32 → Option O_Affix_show) : Prop := ∀ (v1 : T_Row) (x2 : Int32) (ls : Array Slot) (H : Heap) (locs : List Loc), k v1 x2 = some out → lv_has ls 3 [(0, .ref a0_0), (1, .ref a1_0), (2, .int x2)] → va_P D classes (wd_Affix_show cC cI a0_0 a0_1 a1_0 a1_1 v0 v1) H → va_D A (wd_Affix_show cC cI a0_0 a0_1 a1_0 a1_1 v0 v1) → va_S A s.heap H locs → W p l e rm_Affix_show s m args below meth c H locs 0 0 (MQ below (q_Affix_show D cC cI a0_0 a0_1 a1_0 a1_1 v0 out A) args s 0 0 A) (F0 m 2 ls [])
def f_Affix_show_2 (v0 : T_Affix)  : Nat → T_Row → Int32 → Option O_Affix_show
  | 0, _, _ => none
  | n + 1, v1, x2 => (if v0.2 ≤ x2 then some v1 else (f_Affix_shownAt v0 x2).bind (fun o13 => (f_Row_add v1 (i2c o13)).bind (fun o17 => (f_Affix_show_2 v0 n) o17.2 (x2 + (1 : Int32)))))
set_option maxHeartbeats 4000000 in
set_option maxRecDepth 100000 in
theorem w_Affix_show_2 {p : Program} {l : Launch} {e : Env} {s : State} {m : MethodId} {args : Array Value} {below : List Frame} {meth : Method} {c : Code} {A : Nat → Prop} {D : va_G} {cC cI : ClassId} {a0_0 a0_1 a1_0 a1_1 : Nat} {v0 : T_Affix} (X : xCX p s m args meth c A D cC cI b_Affix_show 3 R_Affix none) {out : O_Affix_show}   : ∀ n : Nat, J_Affix_show_2 p l e s m args below meth c A D cC cI a0_0 a0_1 a1_0 a1_1 v0 out (f_Affix_show_2 v0  n) := by
  obtain ⟨hx, hb, hml, hown, htB, ⟨hK, hN⟩, hZ, hA, hr, hlocks⟩ := id X
  intro n
  induction n with
  | zero =>
    intro v1 x2 ls H locs h hl hP hD hS
    cases h
  | succ n ih =>
    intro v1 x2 ls H locs h hl hP hD hS
    refine lv_iload_n hx hb d_Affix_show_2 rfl (lv_at hl 2 rfl) ?_
    refine lv_aload_n hx hb d_Affix_show_3 rfl (lv_at hl 0 rfl) ?_
    refine va_get (D := D) (ci := 1) (v := .int v0.2) (C := R_Affix) (T := F_Affix) (N := 2) hx hb htB in_Affix hown hK hP 0 rfl rfl 1 (by decide) (htB _ b_6) (fun _ h9 => h9) rfl d_Affix_show_4 ?_
    refine lv_icmp_ge (tgt := 27) hx hb d_Affix_show_7 rfl (fun hc => ?_) (fun hc => ?_)
    · have h := (if_pos hc).symm.trans h
      obtain rfl := Option.some.inj h
      exact W.vret hx hb hr (fun t ht hW => ⟨⟨(), rfl, trivial, by rw [ht]; exact hP, hD⟩, hS.F ht⟩) hS.2.2 d_Affix_show_27 hlocks
    have h := (if_neg hc).symm.trans h
    refine lv_aload_n hx hb d_Affix_show_10 rfl (lv_at hl 1 rfl) ?_
    refine lv_aload_n hx hb d_Affix_show_11 rfl (lv_at hl 0 rfl) ?_
    refine lv_iload_n hx hb d_Affix_show_12 rfl (lv_at hl 2 rfl) ?_
    obtain ⟨o13, ho13, h⟩ := x_bnd h
    refine x_calli (r0 := o13) (ws2 := (wd_Affix_show cC cI a0_0 a0_1 a1_0 a1_1 v0 v1)) (x_runV (As := [.int x2]) (rest := [.ref a1_0]) X (c_Affix_shownAt l D cC cI H.size a0_0 a0_1 v0 x2 o13 ho13) b_17 1 (htB _ b_20) (htB _ b_18) (htB _ b_19) (htB _ b_9) ⟨by decide, by decide, by decide +kernel⟩ ⟨(Nat.le_of_ble_eq_true rfl), (Nat.le_of_ble_eq_true rfl)⟩ 0 rfl rfl hP hD hS [0, 1] rfl (by decide) rfl rfl hl.1 rfl rfl (Nat.le_of_ble_eq_true rfl) d_Affix_show_13) hP hD hS hA [0, 1] [2, 3] [2, 3, 0, 1] rfl rfl (by decide) (by decide) rfl (by decide) (fun H locs hP hD hS => ?_)
    refine lv_i2c (v := i2c o13) hx hb d_Affix_show_16 rfl ?_
    obtain ⟨o17, ho17, h⟩ := x_bnd h
    refine x_calli (r0 := o17.1) (ws2 := (wd_Affix_show cC cI a0_0 a0_1 a1_0 a1_1 v0 o17.2)) (x_runVN (As := [.int (i2c o13)]) (rest := []) X (c_Row_add l D cC cI H.size a1_0 a1_1 v1 (i2c o13) o17 ho17) b_21 1 (hN _ n_0) (htB _ b_23) (htB _ b_24) (htB _ b_22) ⟨by decide, by decide, by decide +kernel⟩ ⟨(Nat.le_of_ble_eq_true rfl), (Nat.le_of_ble_eq_true rfl)⟩ 2 rfl rfl hP hD hS [2, 3] rfl (by decide) rfl rfl hl.1 rfl rfl (Nat.le_of_ble_eq_true rfl) d_Affix_show_17) hP hD hS hA [2, 3] [0, 1] [0, 1, 2, 3] rfl rfl (by decide) (by decide) rfl (by decide) (fun H locs hP hD hS => ?_)
    refine lv_pop hx hb d_Affix_show_20 rfl ?_
    refine lv_iinc (k := 2) (v := (x2 + (1 : Int32))) (lv' := [(2, .int (x2 + (1 : Int32))), (0, .ref a0_0), (1, .ref a1_0)]) hx hb d_Affix_show_21 hl rfl (congrArg (fun z => x2 + z) (by decide : Int32.ofInt 1 = (1 : Int32))) (by decide) rfl (fun ls hl => ?_)
    refine lv_goto (tgt := 2) hx hb d_Affix_show_24 rfl ?_
    exact ih o17.2 (x2 + (1 : Int32)) ls H locs h (lv_sub hl [1, 2, 0] rfl) hP hD hS

def f_Affix_show (v0 : T_Affix) (v1 : T_Row) : Option O_Affix_show := f_Affix_show_2 v0 FU v1 (0 : Int32)
set_option maxHeartbeats 4000000 in
set_option maxRecDepth 100000 in
theorem w_Affix_show {p : Program} {l : Launch} {e : Env} {s : State} {m : MethodId} {args : Array Value} {below : List Frame} {meth : Method} {c : Code} {A : Nat → Prop} {D : va_G} {cC cI : ClassId} {a0_0 a0_1 a1_0 a1_1 : Nat} {v0 : T_Affix} (X : xCX p s m args meth c A D cC cI b_Affix_show 3 R_Affix none) {out : O_Affix_show} (v1 : T_Row) {ls : Array Slot} {H : Heap} {locs : List Loc} (h : f_Affix_show v0 v1 = some out) (hl : lv_has ls 3 [(0, .ref a0_0), (1, .ref a1_0)]) (hP : va_P D classes (wd_Affix_show cC cI a0_0 a0_1 a1_0 a1_1 v0 v1) H) (hD : va_D A (wd_Affix_show cC cI a0_0 a0_1 a1_0 a1_1 v0 v1)) (hS : va_S A s.heap H locs) : W p l e rm_Affix_show s m args below meth c H locs 0 0 (MQ below (q_Affix_show D cC cI a0_0 a0_1 a1_0 a1_1 v0 out A) args s 0 0 A) (F0 m 0 ls []) := by
  obtain ⟨hx, hb, hml, hown, htB, ⟨hK, hN⟩, hZ, hA, hr, hlocks⟩ := id X
  refine lv_iconst (v := 0) hx hb d_Affix_show_0 (by decide) ?_
  refine lv_istore_n (lv' := [(2, .int (0 : Int32)), (0, .ref a0_0), (1, .ref a1_0)]) hx hb d_Affix_show_1 rfl hl (by decide) rfl (fun ls hl => ?_)
  exact w_Affix_show_2 X FU v1 (0 : Int32) ls H locs h (lv_sub hl [1, 2, 0] rfl) hP hD hS

set_option maxHeartbeats 4000000 in
set_option maxRecDepth 100000 in
theorem c_Affix_show (l : Launch) (D : va_G) (cC cI : ClassId) (sz : Nat) (a0_0 a0_1 a1_0 a1_1 : Nat) (v0 : T_Affix) (v1 : T_Row) (out : O_Affix_show) (h : f_Affix_show v0 v1 = some out) : Met l y_Affix_show (.code y_Affix_show b_Affix_show 3 none :: BIG) rm_Affix_show (va_Pc [.ref a0_0, .ref a1_0] (xPre D cC cI (wd_Affix_show cC cI a0_0 a0_1 a1_0 a1_1 v0 v1) sz)) (q_Affix_show D cC cI a0_0 a0_1 a1_0 a1_1 v0 out (va_A (wd_Affix_show cC cI a0_0 a0_1 a1_0 a1_1 v0 v1) sz)) 0 0 (va_A (wd_Affix_show cC cI a0_0 a0_1 a1_0 a1_1 v0 v1) sz) := by
  refine Met.ofW (cc := b_Affix_show) (maxL := 3) (ret := none) (by decide) rfl ?_
  intro p e s m args below meth c s₁ B hml hv
  obtain ⟨rfl, rfl, hP, hD0, hG, hZ⟩ := hv
  have hl := lv_entry [.ref a0_0, .ref a1_0] (n := 3) (Nat.le_of_ble_eq_true rfl)
  rw [lg_entry_eq]
  exact w_Affix_show (x_cx B hml hG hZ) v1 h hl hP hD0.self va_S.rf

abbrev wd_Affix_standsIn (cC cI : ClassId) (a0_0 a0_1 a1_0 a1_1 : Nat) (v0 : T_Affix) (v1 : T_Row) : va_W := [(a0_0, .inr (1, [.ref a0_1, .int v0.2])), (a0_1, .inl (cI, 120, .inl v0.1)), (a1_0, .inr (0, [.ref a1_1, .int v1.2])), (a1_1, .inl (cC, 120, .inl v1.1))]
abbrev O_Affix_standsIn : Type := Int32
abbrev q_Affix_standsIn (D : va_G) (cC cI : ClassId) (a0_0 a0_1 a1_0 a1_1 : Nat) (v0 : T_Affix) (v1 : T_Row) (out : O_Affix_standsIn) (A : Nat → Prop) : Array Value → State → Outcome → State → Prop := va_Qi (fun r (_ : Unit) => r = out) (fun _ t => va_P D classes (wd_Affix_standsIn cC cI a0_0 a0_1 a1_0 a1_1 v0 v1) t.heap ∧ va_D A (wd_Affix_standsIn cC cI a0_0 a0_1 a1_0 a1_1 v0 v1)) A
abbrev rm_Affix_standsIn : Room := { frames := 2, cells := 0, slots := 0, locals := 43 }
def J_Affix_standsIn_2 (p : Program) (l : Launch) (e : Env) (s : State) (m : MethodId) (args : Array Value) (below : List Frame) (meth : Method) (c : Code) (A : Nat → Prop) (D : va_G) (cC cI : ClassId) (a0_0 a0_1 a1_0 a1_1 : Nat) (v0 : T_Affix) (v1 : T_Row) (out : O_Affix_standsIn) (k : Int32 → Int32 → Option O_Affix_standsIn) : Prop := ∀ (x2 : Int32) (x3 : Int32) (ls : Array Slot) (H : Heap) (locs : List Loc), k x2 x3 = some out → lv_has ls 4 [(0, .ref a0_0), (1, .ref a1_0), (2, .int x2), (3, .int x3)] → va_P D classes (wd_Affix_standsIn cC cI a0_0 a0_1 a1_0 a1_1 v0 v1) H → va_D A (wd_Affix_standsIn cC cI a0_0 a0_1 a1_0 a1_1 v0 v1) → va_S A s.heap H locs → W p l e rm_Affix_standsIn s m args below meth c H locs 0 0 (MQ below (q_Affix_standsIn D cC cI a0_0 a0_1 a1_0 a1_1 v0 v1 out A) args s 0 0 A) (F0 m 2 ls [])
def f_Affix_standsIn_2 (v0 : T_Affix) (v1 : T_Row)  : Nat → Int32 → Int32 → Option O_Affix_standsIn
  | 0, _, _ => none
  | n + 1, x2, x3 => (if v0.2 ≤ x3 then some (1 : Int32) else (f_Row_at v1 (x2 + x3)).bind (fun o14 => (f_Affix_shownAt v0 x3).bind (fun o19 => (if o14 = o19 then (f_Affix_standsIn_2 v0 v1 n) x2 (x3 + (1 : Int32)) else some (0 : Int32)))))
set_option maxHeartbeats 4000000 in
set_option maxRecDepth 100000 in
theorem w_Affix_standsIn_2 {p : Program} {l : Launch} {e : Env} {s : State} {m : MethodId} {args : Array Value} {below : List Frame} {meth : Method} {c : Code} {A : Nat → Prop} {D : va_G} {cC cI : ClassId} {a0_0 a0_1 a1_0 a1_1 : Nat} {v0 : T_Affix} {v1 : T_Row} (X : xCX p s m args meth c A D cC cI b_Affix_standsIn 4 R_Affix (some .boolean)) {out : O_Affix_standsIn}   : ∀ n : Nat, J_Affix_standsIn_2 p l e s m args below meth c A D cC cI a0_0 a0_1 a1_0 a1_1 v0 v1 out (f_Affix_standsIn_2 v0 v1  n) := by
  obtain ⟨hx, hb, hml, hown, htB, ⟨hK, hN⟩, hZ, hA, hr, hlocks⟩ := id X
  intro n
  induction n with
  | zero =>
    intro x2 x3 ls H locs h hl hP hD hS
    cases h
  | succ n ih =>
    intro x2 x3 ls H locs h hl hP hD hS
    refine lv_iload_n hx hb d_Affix_standsIn_2 rfl (lv_at hl 3 rfl) ?_
    refine lv_aload_n hx hb d_Affix_standsIn_3 rfl (lv_at hl 0 rfl) ?_
    refine va_get (D := D) (ci := 1) (v := .int v0.2) (C := R_Affix) (T := F_Affix) (N := 2) hx hb htB in_Affix hown hK hP 0 rfl rfl 1 (by decide) (htB _ b_6) (fun _ h9 => h9) rfl d_Affix_standsIn_4 ?_
    refine lv_icmp_ge (tgt := 33) hx hb d_Affix_standsIn_7 rfl (fun hc => ?_) (fun hc => ?_)
    · have h := (if_pos hc).symm.trans h
      refine lv_iconst (v := 1) hx hb d_Affix_standsIn_33 (by decide) ?_
      obtain rfl := Option.some.inj h
      exact W.zret (v := (1 : Int32)) (ty := .boolean) hx hb hr rfl (fun t ht hW => ⟨⟨(1 : Int32), (), rfl, rfl, by rw [ht]; exact hP, hD⟩, hS.F ht⟩) hS.2.2 d_Affix_standsIn_34 hlocks
    have h := (if_neg hc).symm.trans h
    refine lv_aload_n hx hb d_Affix_standsIn_10 rfl (lv_at hl 1 rfl) ?_
    refine lv_iload_n hx hb d_Affix_standsIn_11 rfl (lv_at hl 2 rfl) ?_
    refine lv_iload_n hx hb d_Affix_standsIn_12 rfl (lv_at hl 3 rfl) ?_
    refine lv_iadd hx hb d_Affix_standsIn_13 ?_
    obtain ⟨o14, ho14, h⟩ := x_bnd h
    refine x_calli (r0 := o14) (ws2 := (wd_Affix_standsIn cC cI a0_0 a0_1 a1_0 a1_1 v0 v1)) (x_runVN (As := [.int (x2 + x3)]) (rest := []) X (c_Row_at l D cC cI H.size a1_0 a1_1 v1 (x2 + x3) o14 ho14) b_25 1 (hN _ n_1) (htB _ b_26) (htB _ b_27) (htB _ b_22) ⟨by decide, by decide, by decide +kernel⟩ ⟨(Nat.le_of_ble_eq_true rfl), (Nat.le_of_ble_eq_true rfl)⟩ 2 rfl rfl hP hD hS [2, 3] rfl (by decide) rfl rfl hl.1 rfl rfl (Nat.le_of_ble_eq_true rfl) d_Affix_standsIn_14) hP hD hS hA [2, 3] [0, 1] [0, 1, 2, 3] rfl rfl (by decide) (by decide) rfl (by decide) (fun H locs hP hD hS => ?_)
    refine lv_aload_n hx hb d_Affix_standsIn_17 rfl (lv_at hl 0 rfl) ?_
    refine lv_iload_n hx hb d_Affix_standsIn_18 rfl (lv_at hl 3 rfl) ?_
    obtain ⟨o19, ho19, h⟩ := x_bnd h
    refine x_calli (r0 := o19) (ws2 := (wd_Affix_standsIn cC cI a0_0 a0_1 a1_0 a1_1 v0 v1)) (x_runV (As := [.int x3]) (rest := [.int o14]) X (c_Affix_shownAt l D cC cI H.size a0_0 a0_1 v0 x3 o19 ho19) b_17 1 (htB _ b_20) (htB _ b_18) (htB _ b_19) (htB _ b_9) ⟨by decide, by decide, by decide +kernel⟩ ⟨(Nat.le_of_ble_eq_true rfl), (Nat.le_of_ble_eq_true rfl)⟩ 0 rfl rfl hP hD hS [0, 1] rfl (by decide) rfl rfl hl.1 rfl rfl (Nat.le_of_ble_eq_true rfl) d_Affix_standsIn_19) hP hD hS hA [0, 1] [2, 3] [2, 3, 0, 1] rfl rfl (by decide) (by decide) rfl (by decide) (fun H locs hP hD hS => ?_)
    refine lv_icmp_eq (tgt := 27) hx hb d_Affix_standsIn_22 rfl (fun hc => ?_) (fun hc => ?_)
    · have h := (if_pos hc).symm.trans h
      refine lv_iinc (k := 3) (v := (x3 + (1 : Int32))) (lv' := [(3, .int (x3 + (1 : Int32))), (0, .ref a0_0), (1, .ref a1_0), (2, .int x2)]) hx hb d_Affix_standsIn_27 hl rfl (congrArg (fun z => x3 + z) (by decide : Int32.ofInt 1 = (1 : Int32))) (by decide) rfl (fun ls hl => ?_)
      refine lv_goto (tgt := 2) hx hb d_Affix_standsIn_30 rfl ?_
      exact ih x2 (x3 + (1 : Int32)) ls H locs h (lv_sub hl [1, 2, 3, 0] rfl) hP hD hS
    have h := (if_neg hc).symm.trans h
    refine lv_iconst (v := 0) hx hb d_Affix_standsIn_25 (by decide) ?_
    obtain rfl := Option.some.inj h
    exact W.zret (v := (0 : Int32)) (ty := .boolean) hx hb hr rfl (fun t ht hW => ⟨⟨(0 : Int32), (), rfl, rfl, by rw [ht]; exact hP, hD⟩, hS.F ht⟩) hS.2.2 d_Affix_standsIn_26 hlocks

def f_Affix_standsIn (v0 : T_Affix) (v1 : T_Row) (v2 : Int32) : Option O_Affix_standsIn := f_Affix_standsIn_2 v0 v1 FU v2 (0 : Int32)
set_option maxHeartbeats 4000000 in
set_option maxRecDepth 100000 in
theorem w_Affix_standsIn {p : Program} {l : Launch} {e : Env} {s : State} {m : MethodId} {args : Array Value} {below : List Frame} {meth : Method} {c : Code} {A : Nat → Prop} {D : va_G} {cC cI : ClassId} {a0_0 a0_1 a1_0 a1_1 : Nat} {v0 : T_Affix} {v1 : T_Row} (X : xCX p s m args meth c A D cC cI b_Affix_standsIn 4 R_Affix (some .boolean)) {out : O_Affix_standsIn} (v2 : Int32) {ls : Array Slot} {H : Heap} {locs : List Loc} (h : f_Affix_standsIn v0 v1 v2 = some out) (hl : lv_has ls 4 [(0, .ref a0_0), (1, .ref a1_0), (2, .int v2)]) (hP : va_P D classes (wd_Affix_standsIn cC cI a0_0 a0_1 a1_0 a1_1 v0 v1) H) (hD : va_D A (wd_Affix_standsIn cC cI a0_0 a0_1 a1_0 a1_1 v0 v1)) (hS : va_S A s.heap H locs) : W p l e rm_Affix_standsIn s m args below meth c H locs 0 0 (MQ below (q_Affix_standsIn D cC cI a0_0 a0_1 a1_0 a1_1 v0 v1 out A) args s 0 0 A) (F0 m 0 ls []) := by
  obtain ⟨hx, hb, hml, hown, htB, ⟨hK, hN⟩, hZ, hA, hr, hlocks⟩ := id X
  refine lv_iconst (v := 0) hx hb d_Affix_standsIn_0 (by decide) ?_
  refine lv_istore_n (lv' := [(3, .int (0 : Int32)), (0, .ref a0_0), (1, .ref a1_0), (2, .int v2)]) hx hb d_Affix_standsIn_1 rfl hl (by decide) rfl (fun ls hl => ?_)
  exact w_Affix_standsIn_2 X FU v2 (0 : Int32) ls H locs h (lv_sub hl [1, 2, 3, 0] rfl) hP hD hS

set_option maxHeartbeats 4000000 in
set_option maxRecDepth 100000 in
theorem c_Affix_standsIn (l : Launch) (D : va_G) (cC cI : ClassId) (sz : Nat) (a0_0 a0_1 a1_0 a1_1 : Nat) (v0 : T_Affix) (v1 : T_Row) (v2 : Int32) (out : O_Affix_standsIn) (h : f_Affix_standsIn v0 v1 v2 = some out) : Met l y_Affix_standsIn (.code y_Affix_standsIn b_Affix_standsIn 4 (some .boolean) :: BIG) rm_Affix_standsIn (va_Pc [.ref a0_0, .ref a1_0, .int v2] (xPre D cC cI (wd_Affix_standsIn cC cI a0_0 a0_1 a1_0 a1_1 v0 v1) sz)) (q_Affix_standsIn D cC cI a0_0 a0_1 a1_0 a1_1 v0 v1 out (va_A (wd_Affix_standsIn cC cI a0_0 a0_1 a1_0 a1_1 v0 v1) sz)) 0 0 (va_A (wd_Affix_standsIn cC cI a0_0 a0_1 a1_0 a1_1 v0 v1) sz) := by
  refine Met.ofW (cc := b_Affix_standsIn) (maxL := 4) (ret := (some .boolean)) (by decide) rfl ?_
  intro p e s m args below meth c s₁ B hml hv
  obtain ⟨rfl, rfl, hP, hD0, hG, hZ⟩ := hv
  have hl := lv_entry [.ref a0_0, .ref a1_0, .int v2] (n := 4) (Nat.le_of_ble_eq_true rfl)
  rw [lg_entry_eq]
  exact w_Affix_standsIn (x_cx B hml hG hZ) v2 h hl hP hD0.self va_S.rf

abbrev wd_Shape_clear (cC cI : ClassId) (a0_0 : Nat) (v0 : T_Shape) : va_W := [(a0_0, .inr (2, [.int v0.1, .int v0.2.1, .int v0.2.2.1, .int v0.2.2.2.1, .int v0.2.2.2.2.1, .int v0.2.2.2.2.2.1, .int v0.2.2.2.2.2.2]))]
abbrev O_Shape_clear : Type := T_Shape
abbrev q_Shape_clear (D : va_G) (cC cI : ClassId) (a0_0 : Nat)  (out : O_Shape_clear) (A : Nat → Prop) : Array Value → State → Outcome → State → Prop := va_Qv (fun _ : Unit => True) (fun _ t => va_P D classes (wd_Shape_clear cC cI a0_0 out) t.heap ∧ va_D A (wd_Shape_clear cC cI a0_0 out)) A
abbrev rm_Shape_clear : Room := { frames := 0, cells := 0, slots := 0, locals := 0 }
def f_Shape_clear (v0 : T_Shape) : Option O_Shape_clear := some ((0 : Int32), (0 : Int32), (0 : Int32), (0 : Int32), (0 : Int32), (0 : Int32), (0 : Int32))
set_option maxHeartbeats 4000000 in
set_option maxRecDepth 100000 in
theorem w_Shape_clear {p : Program} {l : Launch} {e : Env} {s : State} {m : MethodId} {args : Array Value} {below : List Frame} {meth : Method} {c : Code} {A : Nat → Prop} {D : va_G} {cC cI : ClassId} {a0_0 : Nat} (X : xCX p s m args meth c A D cC cI b_Shape_clear 1 R_Shape none) {out : O_Shape_clear} (v0 : T_Shape) {ls : Array Slot} {H : Heap} {locs : List Loc} (h : f_Shape_clear v0 = some out) (hl : lv_has ls 1 [(0, .ref a0_0)]) (hP : va_P D classes (wd_Shape_clear cC cI a0_0 v0) H) (hD : va_D A (wd_Shape_clear cC cI a0_0 v0)) (hS : va_S A s.heap H locs) : W p l e rm_Shape_clear s m args below meth c H locs 0 0 (MQ below (q_Shape_clear D cC cI a0_0 out A) args s 0 0 A) (F0 m 0 ls []) := by
  obtain ⟨hx, hb, hml, hown, htB, ⟨hK, hN⟩, hZ, hA, hr, hlocks⟩ := id X
  refine lv_aload_n hx hb d_Shape_clear_0 rfl (lv_at hl 0 rfl) ?_
  refine lv_iconst (v := 0) hx hb d_Shape_clear_1 (by decide) ?_
  refine va_put (D := D) (ci := 2) (v := .int (0 : Int32)) (ty := .int) (C := R_Shape) (T := F_Shape) (N := 7) hx hb htB in_Shape t_Shape t_Shape_ok n_Shape hown hK hP hD hS 0 rfl rfl 0 (by decide) (htB _ b_28) (fun _ h9 => h9) rfl (by decide +kernel) rfl rfl (Nat.le_of_ble_eq_true rfl) d_Shape_clear_2 (fun H locs hP hD hS => ?_)
  have hP : va_P D classes (wd_Shape_clear cC cI a0_0 ((0 : Int32), v0.2.1, v0.2.2.1, v0.2.2.2.1, v0.2.2.2.2.1, v0.2.2.2.2.2.1, v0.2.2.2.2.2.2)) H := hP
  have hD : va_D A (wd_Shape_clear cC cI a0_0 ((0 : Int32), v0.2.1, v0.2.2.1, v0.2.2.2.1, v0.2.2.2.2.1, v0.2.2.2.2.2.1, v0.2.2.2.2.2.2)) := hD
  refine lv_aload_n hx hb d_Shape_clear_5 rfl (lv_at hl 0 rfl) ?_
  refine lv_iconst (v := 0) hx hb d_Shape_clear_6 (by decide) ?_
  refine va_put (D := D) (ci := 2) (v := .int (0 : Int32)) (ty := .int) (C := R_Shape) (T := F_Shape) (N := 7) hx hb htB in_Shape t_Shape t_Shape_ok n_Shape hown hK hP hD hS 0 rfl rfl 1 (by decide) (htB _ b_29) (fun _ h9 => h9) rfl (by decide +kernel) rfl rfl (Nat.le_of_ble_eq_true rfl) d_Shape_clear_7 (fun H locs hP hD hS => ?_)
  have hP : va_P D classes (wd_Shape_clear cC cI a0_0 ((0 : Int32), (0 : Int32), v0.2.2.1, v0.2.2.2.1, v0.2.2.2.2.1, v0.2.2.2.2.2.1, v0.2.2.2.2.2.2)) H := hP
  have hD : va_D A (wd_Shape_clear cC cI a0_0 ((0 : Int32), (0 : Int32), v0.2.2.1, v0.2.2.2.1, v0.2.2.2.2.1, v0.2.2.2.2.2.1, v0.2.2.2.2.2.2)) := hD
  refine lv_aload_n hx hb d_Shape_clear_10 rfl (lv_at hl 0 rfl) ?_
  refine lv_iconst (v := 0) hx hb d_Shape_clear_11 (by decide) ?_
  refine va_put (D := D) (ci := 2) (v := .int (0 : Int32)) (ty := .int) (C := R_Shape) (T := F_Shape) (N := 7) hx hb htB in_Shape t_Shape t_Shape_ok n_Shape hown hK hP hD hS 0 rfl rfl 2 (by decide) (htB _ b_30) (fun _ h9 => h9) rfl (by decide +kernel) rfl rfl (Nat.le_of_ble_eq_true rfl) d_Shape_clear_12 (fun H locs hP hD hS => ?_)
  have hP : va_P D classes (wd_Shape_clear cC cI a0_0 ((0 : Int32), (0 : Int32), (0 : Int32), v0.2.2.2.1, v0.2.2.2.2.1, v0.2.2.2.2.2.1, v0.2.2.2.2.2.2)) H := hP
  have hD : va_D A (wd_Shape_clear cC cI a0_0 ((0 : Int32), (0 : Int32), (0 : Int32), v0.2.2.2.1, v0.2.2.2.2.1, v0.2.2.2.2.2.1, v0.2.2.2.2.2.2)) := hD
  refine lv_aload_n hx hb d_Shape_clear_15 rfl (lv_at hl 0 rfl) ?_
  refine lv_iconst (v := 0) hx hb d_Shape_clear_16 (by decide) ?_
  refine va_put (D := D) (ci := 2) (v := .int (0 : Int32)) (ty := .int) (C := R_Shape) (T := F_Shape) (N := 7) hx hb htB in_Shape t_Shape t_Shape_ok n_Shape hown hK hP hD hS 0 rfl rfl 3 (by decide) (htB _ b_31) (fun _ h9 => h9) rfl (by decide +kernel) rfl rfl (Nat.le_of_ble_eq_true rfl) d_Shape_clear_17 (fun H locs hP hD hS => ?_)
  have hP : va_P D classes (wd_Shape_clear cC cI a0_0 ((0 : Int32), (0 : Int32), (0 : Int32), (0 : Int32), v0.2.2.2.2.1, v0.2.2.2.2.2.1, v0.2.2.2.2.2.2)) H := hP
  have hD : va_D A (wd_Shape_clear cC cI a0_0 ((0 : Int32), (0 : Int32), (0 : Int32), (0 : Int32), v0.2.2.2.2.1, v0.2.2.2.2.2.1, v0.2.2.2.2.2.2)) := hD
  refine lv_aload_n hx hb d_Shape_clear_20 rfl (lv_at hl 0 rfl) ?_
  refine lv_iconst (v := 0) hx hb d_Shape_clear_21 (by decide) ?_
  refine va_put (D := D) (ci := 2) (v := .int (0 : Int32)) (ty := .boolean) (C := R_Shape) (T := F_Shape) (N := 7) hx hb htB in_Shape t_Shape t_Shape_ok n_Shape hown hK hP hD hS 0 rfl rfl 4 (by decide) (htB _ b_32) (fun _ h9 => h9) rfl (by decide +kernel) rfl rfl (Nat.le_of_ble_eq_true rfl) d_Shape_clear_22 (fun H locs hP hD hS => ?_)
  have hP : va_P D classes (wd_Shape_clear cC cI a0_0 ((0 : Int32), (0 : Int32), (0 : Int32), (0 : Int32), (0 : Int32), v0.2.2.2.2.2.1, v0.2.2.2.2.2.2)) H := hP
  have hD : va_D A (wd_Shape_clear cC cI a0_0 ((0 : Int32), (0 : Int32), (0 : Int32), (0 : Int32), (0 : Int32), v0.2.2.2.2.2.1, v0.2.2.2.2.2.2)) := hD
  refine lv_aload_n hx hb d_Shape_clear_25 rfl (lv_at hl 0 rfl) ?_
  refine lv_iconst (v := 0) hx hb d_Shape_clear_26 (by decide) ?_
  refine va_put (D := D) (ci := 2) (v := .int (0 : Int32)) (ty := .int) (C := R_Shape) (T := F_Shape) (N := 7) hx hb htB in_Shape t_Shape t_Shape_ok n_Shape hown hK hP hD hS 0 rfl rfl 5 (by decide) (htB _ b_33) (fun _ h9 => h9) rfl (by decide +kernel) rfl rfl (Nat.le_of_ble_eq_true rfl) d_Shape_clear_27 (fun H locs hP hD hS => ?_)
  have hP : va_P D classes (wd_Shape_clear cC cI a0_0 ((0 : Int32), (0 : Int32), (0 : Int32), (0 : Int32), (0 : Int32), (0 : Int32), v0.2.2.2.2.2.2)) H := hP
  have hD : va_D A (wd_Shape_clear cC cI a0_0 ((0 : Int32), (0 : Int32), (0 : Int32), (0 : Int32), (0 : Int32), (0 : Int32), v0.2.2.2.2.2.2)) := hD
  refine lv_aload_n hx hb d_Shape_clear_30 rfl (lv_at hl 0 rfl) ?_
  refine lv_iconst (v := 0) hx hb d_Shape_clear_31 (by decide) ?_
  refine va_put (D := D) (ci := 2) (v := .int (0 : Int32)) (ty := .int) (C := R_Shape) (T := F_Shape) (N := 7) hx hb htB in_Shape t_Shape t_Shape_ok n_Shape hown hK hP hD hS 0 rfl rfl 6 (by decide) (htB _ b_34) (fun _ h9 => h9) rfl (by decide +kernel) rfl rfl (Nat.le_of_ble_eq_true rfl) d_Shape_clear_32 (fun H locs hP hD hS => ?_)
  have hP : va_P D classes (wd_Shape_clear cC cI a0_0 ((0 : Int32), (0 : Int32), (0 : Int32), (0 : Int32), (0 : Int32), (0 : Int32), (0 : Int32))) H := hP
  have hD : va_D A (wd_Shape_clear cC cI a0_0 ((0 : Int32), (0 : Int32), (0 : Int32), (0 : Int32), (0 : Int32), (0 : Int32), (0 : Int32))) := hD
  obtain rfl := Option.some.inj h
  exact W.vret hx hb hr (fun t ht hW => ⟨⟨(), rfl, trivial, by rw [ht]; exact hP, hD⟩, hS.F ht⟩) hS.2.2 d_Shape_clear_35 hlocks

set_option maxHeartbeats 4000000 in
set_option maxRecDepth 100000 in
theorem c_Shape_clear (l : Launch) (D : va_G) (cC cI : ClassId) (sz : Nat) (a0_0 : Nat) (v0 : T_Shape) (out : O_Shape_clear) (h : f_Shape_clear v0 = some out) : Met l y_Shape_clear (.code y_Shape_clear b_Shape_clear 1 none :: BIG) rm_Shape_clear (va_Pc [.ref a0_0] (xPre D cC cI (wd_Shape_clear cC cI a0_0 v0) sz)) (q_Shape_clear D cC cI a0_0 out (va_A (wd_Shape_clear cC cI a0_0 v0) sz)) 0 0 (va_A (wd_Shape_clear cC cI a0_0 v0) sz) := by
  refine Met.ofW (cc := b_Shape_clear) (maxL := 1) (ret := none) (by decide) rfl ?_
  intro p e s m args below meth c s₁ B hml hv
  obtain ⟨rfl, rfl, hP, hD0, hG, hZ⟩ := hv
  have hl := lv_entry [.ref a0_0] (n := 1) (Nat.le_of_ble_eq_true rfl)
  rw [lg_entry_eq]
  exact w_Shape_clear (x_cx B hml hG hZ) v0 h hl hP hD0.self va_S.rf

abbrev wd_Shape_startGroup (cC cI : ClassId) (a0_0 : Nat) (v0 : T_Shape) : va_W := [(a0_0, .inr (2, [.int v0.1, .int v0.2.1, .int v0.2.2.1, .int v0.2.2.2.1, .int v0.2.2.2.2.1, .int v0.2.2.2.2.2.1, .int v0.2.2.2.2.2.2]))]
abbrev O_Shape_startGroup : Type := T_Shape
abbrev q_Shape_startGroup (D : va_G) (cC cI : ClassId) (a0_0 : Nat)  (out : O_Shape_startGroup) (A : Nat → Prop) : Array Value → State → Outcome → State → Prop := va_Qv (fun _ : Unit => True) (fun _ t => va_P D classes (wd_Shape_startGroup cC cI a0_0 out) t.heap ∧ va_D A (wd_Shape_startGroup cC cI a0_0 out)) A
abbrev rm_Shape_startGroup : Room := { frames := 0, cells := 0, slots := 0, locals := 0 }
def f_Shape_startGroup (v0 : T_Shape) : Option O_Shape_startGroup := some (v0.1, v0.2.1, v0.2.2.1, v0.2.2.2.1, (1 : Int32), (0 : Int32), v0.2.2.2.2.2.2)
set_option maxHeartbeats 4000000 in
set_option maxRecDepth 100000 in
theorem w_Shape_startGroup {p : Program} {l : Launch} {e : Env} {s : State} {m : MethodId} {args : Array Value} {below : List Frame} {meth : Method} {c : Code} {A : Nat → Prop} {D : va_G} {cC cI : ClassId} {a0_0 : Nat} (X : xCX p s m args meth c A D cC cI b_Shape_startGroup 1 R_Shape none) {out : O_Shape_startGroup} (v0 : T_Shape) {ls : Array Slot} {H : Heap} {locs : List Loc} (h : f_Shape_startGroup v0 = some out) (hl : lv_has ls 1 [(0, .ref a0_0)]) (hP : va_P D classes (wd_Shape_startGroup cC cI a0_0 v0) H) (hD : va_D A (wd_Shape_startGroup cC cI a0_0 v0)) (hS : va_S A s.heap H locs) : W p l e rm_Shape_startGroup s m args below meth c H locs 0 0 (MQ below (q_Shape_startGroup D cC cI a0_0 out A) args s 0 0 A) (F0 m 0 ls []) := by
  obtain ⟨hx, hb, hml, hown, htB, ⟨hK, hN⟩, hZ, hA, hr, hlocks⟩ := id X
  refine lv_aload_n hx hb d_Shape_startGroup_0 rfl (lv_at hl 0 rfl) ?_
  refine lv_iconst (v := 1) hx hb d_Shape_startGroup_1 (by decide) ?_
  refine va_put (D := D) (ci := 2) (v := .int (1 : Int32)) (ty := .boolean) (C := R_Shape) (T := F_Shape) (N := 7) hx hb htB in_Shape t_Shape t_Shape_ok n_Shape hown hK hP hD hS 0 rfl rfl 4 (by decide) (htB _ b_32) (fun _ h9 => h9) rfl (by decide +kernel) rfl rfl (Nat.le_of_ble_eq_true rfl) d_Shape_startGroup_2 (fun H locs hP hD hS => ?_)
  have hP : va_P D classes (wd_Shape_startGroup cC cI a0_0 (v0.1, v0.2.1, v0.2.2.1, v0.2.2.2.1, (1 : Int32), v0.2.2.2.2.2.1, v0.2.2.2.2.2.2)) H := hP
  have hD : va_D A (wd_Shape_startGroup cC cI a0_0 (v0.1, v0.2.1, v0.2.2.1, v0.2.2.2.1, (1 : Int32), v0.2.2.2.2.2.1, v0.2.2.2.2.2.2)) := hD
  refine lv_aload_n hx hb d_Shape_startGroup_5 rfl (lv_at hl 0 rfl) ?_
  refine lv_iconst (v := 0) hx hb d_Shape_startGroup_6 (by decide) ?_
  refine va_put (D := D) (ci := 2) (v := .int (0 : Int32)) (ty := .int) (C := R_Shape) (T := F_Shape) (N := 7) hx hb htB in_Shape t_Shape t_Shape_ok n_Shape hown hK hP hD hS 0 rfl rfl 5 (by decide) (htB _ b_33) (fun _ h9 => h9) rfl (by decide +kernel) rfl rfl (Nat.le_of_ble_eq_true rfl) d_Shape_startGroup_7 (fun H locs hP hD hS => ?_)
  have hP : va_P D classes (wd_Shape_startGroup cC cI a0_0 (v0.1, v0.2.1, v0.2.2.1, v0.2.2.2.1, (1 : Int32), (0 : Int32), v0.2.2.2.2.2.2)) H := hP
  have hD : va_D A (wd_Shape_startGroup cC cI a0_0 (v0.1, v0.2.1, v0.2.2.1, v0.2.2.2.1, (1 : Int32), (0 : Int32), v0.2.2.2.2.2.2)) := hD
  obtain rfl := Option.some.inj h
  exact W.vret hx hb hr (fun t ht hW => ⟨⟨(), rfl, trivial, by rw [ht]; exact hP, hD⟩, hS.F ht⟩) hS.2.2 d_Shape_startGroup_10 hlocks

set_option maxHeartbeats 4000000 in
set_option maxRecDepth 100000 in
theorem c_Shape_startGroup (l : Launch) (D : va_G) (cC cI : ClassId) (sz : Nat) (a0_0 : Nat) (v0 : T_Shape) (out : O_Shape_startGroup) (h : f_Shape_startGroup v0 = some out) : Met l y_Shape_startGroup (.code y_Shape_startGroup b_Shape_startGroup 1 none :: BIG) rm_Shape_startGroup (va_Pc [.ref a0_0] (xPre D cC cI (wd_Shape_startGroup cC cI a0_0 v0) sz)) (q_Shape_startGroup D cC cI a0_0 out (va_A (wd_Shape_startGroup cC cI a0_0 v0) sz)) 0 0 (va_A (wd_Shape_startGroup cC cI a0_0 v0) sz) := by
  refine Met.ofW (cc := b_Shape_startGroup) (maxL := 1) (ret := none) (by decide) rfl ?_
  intro p e s m args below meth c s₁ B hml hv
  obtain ⟨rfl, rfl, hP, hD0, hG, hZ⟩ := hv
  have hl := lv_entry [.ref a0_0] (n := 1) (Nat.le_of_ble_eq_true rfl)
  rw [lg_entry_eq]
  exact w_Shape_startGroup (x_cx B hml hG hZ) v0 h hl hP hD0.self va_S.rf

abbrev wd_Shape_takeInteger (cC cI : ClassId) (a0_0 : Nat) (v0 : T_Shape) : va_W := [(a0_0, .inr (2, [.int v0.1, .int v0.2.1, .int v0.2.2.1, .int v0.2.2.2.1, .int v0.2.2.2.2.1, .int v0.2.2.2.2.2.1, .int v0.2.2.2.2.2.2]))]
abbrev O_Shape_takeInteger : Type := Int32 × T_Shape
abbrev q_Shape_takeInteger (D : va_G) (cC cI : ClassId) (a0_0 : Nat)  (out : O_Shape_takeInteger) (A : Nat → Prop) : Array Value → State → Outcome → State → Prop := va_Qi (fun r (_ : Unit) => r = out.1) (fun _ t => va_P D classes (wd_Shape_takeInteger cC cI a0_0 out.2) t.heap ∧ va_D A (wd_Shape_takeInteger cC cI a0_0 out.2)) A
abbrev rm_Shape_takeInteger : Room := { frames := 0, cells := 0, slots := 0, locals := 0 }
def J_Shape_takeInteger_26 (p : Program) (l : Launch) (e : Env) (s : State) (m : MethodId) (args : Array Value) (below : List Frame) (meth : Method) (c : Code) (A : Nat → Prop) (D : va_G) (cC cI : ClassId) (a0_0 : Nat) (out : O_Shape_takeInteger) (k : T_Shape → Int32 → Option O_Shape_takeInteger) : Prop := ∀ (v0 : T_Shape) (x1 : Int32) (ls : Array Slot) (H : Heap) (locs : List Loc), k v0 x1 = some out → lv_has ls 2 [(0, .ref a0_0), (1, .int x1)] → va_P D classes (wd_Shape_takeInteger cC cI a0_0 v0) H → va_D A (wd_Shape_takeInteger cC cI a0_0 v0) → va_S A s.heap H locs → W p l e rm_Shape_takeInteger s m args below meth c H locs 0 0 (MQ below (q_Shape_takeInteger D cC cI a0_0 out A) args s 0 0 A) (F0 m 26 ls [])
def J_Shape_takeInteger_47 (p : Program) (l : Launch) (e : Env) (s : State) (m : MethodId) (args : Array Value) (below : List Frame) (meth : Method) (c : Code) (A : Nat → Prop) (D : va_G) (cC cI : ClassId) (a0_0 : Nat) (out : O_Shape_takeInteger) (k : T_Shape → Option O_Shape_takeInteger) : Prop := ∀ (v0 : T_Shape) (ls : Array Slot) (H : Heap) (locs : List Loc), k v0 = some out → lv_has ls 2 [(0, .ref a0_0)] → va_P D classes (wd_Shape_takeInteger cC cI a0_0 v0) H → va_D A (wd_Shape_takeInteger cC cI a0_0 v0) → va_S A s.heap H locs → W p l e rm_Shape_takeInteger s m args below meth c H locs 0 0 (MQ below (q_Shape_takeInteger D cC cI a0_0 out A) args s 0 0 A) (F0 m 47 ls [])
def J_Shape_takeInteger_64 (p : Program) (l : Launch) (e : Env) (s : State) (m : MethodId) (args : Array Value) (below : List Frame) (meth : Method) (c : Code) (A : Nat → Prop) (D : va_G) (cC cI : ClassId) (a0_0 : Nat) (out : O_Shape_takeInteger) (k : T_Shape → Option O_Shape_takeInteger) : Prop := ∀ (v0 : T_Shape) (ls : Array Slot) (H : Heap) (locs : List Loc), k v0 = some out → lv_has ls 2 [] → va_P D classes (wd_Shape_takeInteger cC cI a0_0 v0) H → va_D A (wd_Shape_takeInteger cC cI a0_0 v0) → va_S A s.heap H locs → W p l e rm_Shape_takeInteger s m args below meth c H locs 0 0 (MQ below (q_Shape_takeInteger D cC cI a0_0 out A) args s 0 0 A) (F0 m 64 ls [])
def f_Shape_takeInteger_64 (v0 : T_Shape) : Option O_Shape_takeInteger := some ((1 : Int32), v0)
set_option maxHeartbeats 4000000 in
set_option maxRecDepth 100000 in
theorem w_Shape_takeInteger_64 {p : Program} {l : Launch} {e : Env} {s : State} {m : MethodId} {args : Array Value} {below : List Frame} {meth : Method} {c : Code} {A : Nat → Prop} {D : va_G} {cC cI : ClassId} {a0_0 : Nat} (X : xCX p s m args meth c A D cC cI b_Shape_takeInteger 2 R_Shape (some .boolean)) {out : O_Shape_takeInteger}   : J_Shape_takeInteger_64 p l e s m args below meth c A D cC cI a0_0 out (f_Shape_takeInteger_64  ) := by
  obtain ⟨hx, hb, hml, hown, htB, ⟨hK, hN⟩, hZ, hA, hr, hlocks⟩ := id X
  intro v0 ls H locs h hl hP hD hS
  refine lv_iconst (v := 1) hx hb d_Shape_takeInteger_64 (by decide) ?_
  obtain rfl := Option.some.inj h
  exact W.zret (v := (1 : Int32)) (ty := .boolean) hx hb hr rfl (fun t ht hW => ⟨⟨(1 : Int32), (), rfl, rfl, by rw [ht]; exact hP, hD⟩, hS.F ht⟩) hS.2.2 d_Shape_takeInteger_65 hlocks

def f_Shape_takeInteger_47 (v0 : T_Shape) : Option O_Shape_takeInteger := (if v0.2.2.2.2.1 = 0 then f_Shape_takeInteger_64 v0 else f_Shape_takeInteger_64 (v0.1, v0.2.1, v0.2.2.1, v0.2.2.2.1, v0.2.2.2.2.1, (v0.2.2.2.2.2.1 + (1 : Int32)), v0.2.2.2.2.2.2))
set_option maxHeartbeats 4000000 in
set_option maxRecDepth 100000 in
theorem w_Shape_takeInteger_47 {p : Program} {l : Launch} {e : Env} {s : State} {m : MethodId} {args : Array Value} {below : List Frame} {meth : Method} {c : Code} {A : Nat → Prop} {D : va_G} {cC cI : ClassId} {a0_0 : Nat} (X : xCX p s m args meth c A D cC cI b_Shape_takeInteger 2 R_Shape (some .boolean)) {out : O_Shape_takeInteger}   : J_Shape_takeInteger_47 p l e s m args below meth c A D cC cI a0_0 out (f_Shape_takeInteger_47  ) := by
  obtain ⟨hx, hb, hml, hown, htB, ⟨hK, hN⟩, hZ, hA, hr, hlocks⟩ := id X
  intro v0 ls H locs h hl hP hD hS
  refine lv_aload_n hx hb d_Shape_takeInteger_47 rfl (lv_at hl 0 rfl) ?_
  refine va_get (D := D) (ci := 2) (v := .int v0.2.2.2.2.1) (C := R_Shape) (T := F_Shape) (N := 7) hx hb htB in_Shape hown hK hP 0 rfl rfl 4 (by decide) (htB _ b_32) (fun _ h9 => h9) rfl d_Shape_takeInteger_48 ?_
  refine lv_if_eq (tgt := 64) hx hb d_Shape_takeInteger_51 rfl (fun hc => ?_) (fun hc => ?_)
  · have h := (if_pos hc).symm.trans h
    exact w_Shape_takeInteger_64 X v0 ls H locs h (lv_sub hl [] rfl) hP hD hS
  have h := (if_neg hc).symm.trans h
  refine lv_aload_n hx hb d_Shape_takeInteger_54 rfl (lv_at hl 0 rfl) ?_
  refine lv_dup hx hb d_Shape_takeInteger_55 rfl ?_
  refine va_get (D := D) (ci := 2) (v := .int v0.2.2.2.2.2.1) (C := R_Shape) (T := F_Shape) (N := 7) hx hb htB in_Shape hown hK hP 0 rfl rfl 5 (by decide) (htB _ b_33) (fun _ h9 => h9) rfl d_Shape_takeInteger_56 ?_
  refine lv_iconst (v := 1) hx hb d_Shape_takeInteger_59 (by decide) ?_
  refine lv_iadd hx hb d_Shape_takeInteger_60 ?_
  refine va_put (D := D) (ci := 2) (v := .int (v0.2.2.2.2.2.1 + (1 : Int32))) (ty := .int) (C := R_Shape) (T := F_Shape) (N := 7) hx hb htB in_Shape t_Shape t_Shape_ok n_Shape hown hK hP hD hS 0 rfl rfl 5 (by decide) (htB _ b_33) (fun _ h9 => h9) rfl (by decide +kernel) rfl rfl (Nat.le_of_ble_eq_true rfl) d_Shape_takeInteger_61 (fun H locs hP hD hS => ?_)
  have hP : va_P D classes (wd_Shape_takeInteger cC cI a0_0 (v0.1, v0.2.1, v0.2.2.1, v0.2.2.2.1, v0.2.2.2.2.1, (v0.2.2.2.2.2.1 + (1 : Int32)), v0.2.2.2.2.2.2)) H := hP
  have hD : va_D A (wd_Shape_takeInteger cC cI a0_0 (v0.1, v0.2.1, v0.2.2.1, v0.2.2.2.1, v0.2.2.2.2.1, (v0.2.2.2.2.2.1 + (1 : Int32)), v0.2.2.2.2.2.2)) := hD
  exact w_Shape_takeInteger_64 X (v0.1, v0.2.1, v0.2.2.1, v0.2.2.2.1, v0.2.2.2.2.1, (v0.2.2.2.2.2.1 + (1 : Int32)), v0.2.2.2.2.2.2) ls H locs h (lv_sub hl [] rfl) hP hD hS

def f_Shape_takeInteger_26 (v0 : T_Shape) (x1 : Int32) : Option O_Shape_takeInteger := (if x1 = (48 : Int32) then f_Shape_takeInteger_47 (v0.1, (v0.2.1 + (1 : Int32)), v0.2.2.1, v0.2.2.2.1, v0.2.2.2.2.1, v0.2.2.2.2.2.1, v0.2.2.2.2.2.2) else some ((0 : Int32), v0))
set_option maxHeartbeats 4000000 in
set_option maxRecDepth 100000 in
theorem w_Shape_takeInteger_26 {p : Program} {l : Launch} {e : Env} {s : State} {m : MethodId} {args : Array Value} {below : List Frame} {meth : Method} {c : Code} {A : Nat → Prop} {D : va_G} {cC cI : ClassId} {a0_0 : Nat} (X : xCX p s m args meth c A D cC cI b_Shape_takeInteger 2 R_Shape (some .boolean)) {out : O_Shape_takeInteger}   : J_Shape_takeInteger_26 p l e s m args below meth c A D cC cI a0_0 out (f_Shape_takeInteger_26  ) := by
  obtain ⟨hx, hb, hml, hown, htB, ⟨hK, hN⟩, hZ, hA, hr, hlocks⟩ := id X
  intro v0 x1 ls H locs h hl hP hD hS
  refine lv_iload_n hx hb d_Shape_takeInteger_26 rfl (lv_at hl 1 rfl) ?_
  refine lv_bipush (v := 48) hx hb d_Shape_takeInteger_27 (by decide) ?_
  refine lv_icmp_ne (tgt := 45) hx hb d_Shape_takeInteger_29 rfl (fun hc => ?_) (fun hc => ?_)
  · have h := (if_neg hc).symm.trans h
    refine lv_iconst (v := 0) hx hb d_Shape_takeInteger_45 (by decide) ?_
    obtain rfl := Option.some.inj h
    exact W.zret (v := (0 : Int32)) (ty := .boolean) hx hb hr rfl (fun t ht hW => ⟨⟨(0 : Int32), (), rfl, rfl, by rw [ht]; exact hP, hD⟩, hS.F ht⟩) hS.2.2 d_Shape_takeInteger_46 hlocks
  have h := (if_pos hc).symm.trans h
  refine lv_aload_n hx hb d_Shape_takeInteger_32 rfl (lv_at hl 0 rfl) ?_
  refine lv_dup hx hb d_Shape_takeInteger_33 rfl ?_
  refine va_get (D := D) (ci := 2) (v := .int v0.2.1) (C := R_Shape) (T := F_Shape) (N := 7) hx hb htB in_Shape hown hK hP 0 rfl rfl 1 (by decide) (htB _ b_29) (fun _ h9 => h9) rfl d_Shape_takeInteger_34 ?_
  refine lv_iconst (v := 1) hx hb d_Shape_takeInteger_37 (by decide) ?_
  refine lv_iadd hx hb d_Shape_takeInteger_38 ?_
  refine va_put (D := D) (ci := 2) (v := .int (v0.2.1 + (1 : Int32))) (ty := .int) (C := R_Shape) (T := F_Shape) (N := 7) hx hb htB in_Shape t_Shape t_Shape_ok n_Shape hown hK hP hD hS 0 rfl rfl 1 (by decide) (htB _ b_29) (fun _ h9 => h9) rfl (by decide +kernel) rfl rfl (Nat.le_of_ble_eq_true rfl) d_Shape_takeInteger_39 (fun H locs hP hD hS => ?_)
  have hP : va_P D classes (wd_Shape_takeInteger cC cI a0_0 (v0.1, (v0.2.1 + (1 : Int32)), v0.2.2.1, v0.2.2.2.1, v0.2.2.2.2.1, v0.2.2.2.2.2.1, v0.2.2.2.2.2.2)) H := hP
  have hD : va_D A (wd_Shape_takeInteger cC cI a0_0 (v0.1, (v0.2.1 + (1 : Int32)), v0.2.2.1, v0.2.2.2.1, v0.2.2.2.2.1, v0.2.2.2.2.2.1, v0.2.2.2.2.2.2)) := hD
  refine lv_goto (tgt := 47) hx hb d_Shape_takeInteger_42 rfl ?_
  exact w_Shape_takeInteger_47 X (v0.1, (v0.2.1 + (1 : Int32)), v0.2.2.1, v0.2.2.2.1, v0.2.2.2.2.1, v0.2.2.2.2.2.1, v0.2.2.2.2.2.2) ls H locs h (lv_sub hl [0] rfl) hP hD hS

def f_Shape_takeInteger (v0 : T_Shape) (v1 : Int32) : Option O_Shape_takeInteger := (if v1 = (35 : Int32) then (if v0.2.1 = 0 then f_Shape_takeInteger_47 ((v0.1 + (1 : Int32)), v0.2.1, v0.2.2.1, v0.2.2.2.1, v0.2.2.2.2.1, v0.2.2.2.2.2.1, v0.2.2.2.2.2.2) else f_Shape_takeInteger_26 v0 v1) else f_Shape_takeInteger_26 v0 v1)
set_option maxHeartbeats 4000000 in
set_option maxRecDepth 100000 in
theorem w_Shape_takeInteger {p : Program} {l : Launch} {e : Env} {s : State} {m : MethodId} {args : Array Value} {below : List Frame} {meth : Method} {c : Code} {A : Nat → Prop} {D : va_G} {cC cI : ClassId} {a0_0 : Nat} (X : xCX p s m args meth c A D cC cI b_Shape_takeInteger 2 R_Shape (some .boolean)) {out : O_Shape_takeInteger} (v0 : T_Shape) (v1 : Int32) {ls : Array Slot} {H : Heap} {locs : List Loc} (h : f_Shape_takeInteger v0 v1 = some out) (hl : lv_has ls 2 [(0, .ref a0_0), (1, .int v1)]) (hP : va_P D classes (wd_Shape_takeInteger cC cI a0_0 v0) H) (hD : va_D A (wd_Shape_takeInteger cC cI a0_0 v0)) (hS : va_S A s.heap H locs) : W p l e rm_Shape_takeInteger s m args below meth c H locs 0 0 (MQ below (q_Shape_takeInteger D cC cI a0_0 out A) args s 0 0 A) (F0 m 0 ls []) := by
  obtain ⟨hx, hb, hml, hown, htB, ⟨hK, hN⟩, hZ, hA, hr, hlocks⟩ := id X
  refine lv_iload_n hx hb d_Shape_takeInteger_0 rfl (lv_at hl 1 rfl) ?_
  refine lv_bipush (v := 35) hx hb d_Shape_takeInteger_1 (by decide) ?_
  refine lv_icmp_ne (tgt := 26) hx hb d_Shape_takeInteger_3 rfl (fun hc => ?_) (fun hc => ?_)
  · have h := (if_neg hc).symm.trans h
    exact w_Shape_takeInteger_26 X v0 v1 ls H locs h (lv_sub hl [0, 1] rfl) hP hD hS
  have h := (if_pos hc).symm.trans h
  refine lv_aload_n hx hb d_Shape_takeInteger_6 rfl (lv_at hl 0 rfl) ?_
  refine va_get (D := D) (ci := 2) (v := .int v0.2.1) (C := R_Shape) (T := F_Shape) (N := 7) hx hb htB in_Shape hown hK hP 0 rfl rfl 1 (by decide) (htB _ b_29) (fun _ h9 => h9) rfl d_Shape_takeInteger_7 ?_
  refine lv_if_ne (tgt := 26) hx hb d_Shape_takeInteger_10 rfl (fun hc => ?_) (fun hc => ?_)
  · have h := (if_neg hc).symm.trans h
    exact w_Shape_takeInteger_26 X v0 v1 ls H locs h (lv_sub hl [0, 1] rfl) hP hD hS
  have h := (if_pos hc).symm.trans h
  refine lv_aload_n hx hb d_Shape_takeInteger_13 rfl (lv_at hl 0 rfl) ?_
  refine lv_dup hx hb d_Shape_takeInteger_14 rfl ?_
  refine va_get (D := D) (ci := 2) (v := .int v0.1) (C := R_Shape) (T := F_Shape) (N := 7) hx hb htB in_Shape hown hK hP 0 rfl rfl 0 (by decide) (htB _ b_28) (fun _ h9 => h9) rfl d_Shape_takeInteger_15 ?_
  refine lv_iconst (v := 1) hx hb d_Shape_takeInteger_18 (by decide) ?_
  refine lv_iadd hx hb d_Shape_takeInteger_19 ?_
  refine va_put (D := D) (ci := 2) (v := .int (v0.1 + (1 : Int32))) (ty := .int) (C := R_Shape) (T := F_Shape) (N := 7) hx hb htB in_Shape t_Shape t_Shape_ok n_Shape hown hK hP hD hS 0 rfl rfl 0 (by decide) (htB _ b_28) (fun _ h9 => h9) rfl (by decide +kernel) rfl rfl (Nat.le_of_ble_eq_true rfl) d_Shape_takeInteger_20 (fun H locs hP hD hS => ?_)
  have hP : va_P D classes (wd_Shape_takeInteger cC cI a0_0 ((v0.1 + (1 : Int32)), v0.2.1, v0.2.2.1, v0.2.2.2.1, v0.2.2.2.2.1, v0.2.2.2.2.2.1, v0.2.2.2.2.2.2)) H := hP
  have hD : va_D A (wd_Shape_takeInteger cC cI a0_0 ((v0.1 + (1 : Int32)), v0.2.1, v0.2.2.1, v0.2.2.2.1, v0.2.2.2.2.1, v0.2.2.2.2.2.1, v0.2.2.2.2.2.2)) := hD
  refine lv_goto (tgt := 47) hx hb d_Shape_takeInteger_23 rfl ?_
  exact w_Shape_takeInteger_47 X ((v0.1 + (1 : Int32)), v0.2.1, v0.2.2.1, v0.2.2.2.1, v0.2.2.2.2.1, v0.2.2.2.2.2.1, v0.2.2.2.2.2.2) ls H locs h (lv_sub hl [0] rfl) hP hD hS

set_option maxHeartbeats 4000000 in
set_option maxRecDepth 100000 in
theorem c_Shape_takeInteger (l : Launch) (D : va_G) (cC cI : ClassId) (sz : Nat) (a0_0 : Nat) (v0 : T_Shape) (v1 : Int32) (out : O_Shape_takeInteger) (h : f_Shape_takeInteger v0 v1 = some out) : Met l y_Shape_takeInteger (.code y_Shape_takeInteger b_Shape_takeInteger 2 (some .boolean) :: BIG) rm_Shape_takeInteger (va_Pc [.ref a0_0, .int v1] (xPre D cC cI (wd_Shape_takeInteger cC cI a0_0 v0) sz)) (q_Shape_takeInteger D cC cI a0_0 out (va_A (wd_Shape_takeInteger cC cI a0_0 v0) sz)) 0 0 (va_A (wd_Shape_takeInteger cC cI a0_0 v0) sz) := by
  refine Met.ofW (cc := b_Shape_takeInteger) (maxL := 2) (ret := (some .boolean)) (by decide) rfl ?_
  intro p e s m args below meth c s₁ B hml hv
  obtain ⟨rfl, rfl, hP, hD0, hG, hZ⟩ := hv
  have hl := lv_entry [.ref a0_0, .int v1] (n := 2) (Nat.le_of_ble_eq_true rfl)
  rw [lg_entry_eq]
  exact w_Shape_takeInteger (x_cx B hml hG hZ) v0 v1 h hl hP hD0.self va_S.rf

abbrev wd_Shape_takeFraction (cC cI : ClassId) (a0_0 : Nat) (v0 : T_Shape) : va_W := [(a0_0, .inr (2, [.int v0.1, .int v0.2.1, .int v0.2.2.1, .int v0.2.2.2.1, .int v0.2.2.2.2.1, .int v0.2.2.2.2.2.1, .int v0.2.2.2.2.2.2]))]
abbrev O_Shape_takeFraction : Type := Int32 × T_Shape
abbrev q_Shape_takeFraction (D : va_G) (cC cI : ClassId) (a0_0 : Nat)  (out : O_Shape_takeFraction) (A : Nat → Prop) : Array Value → State → Outcome → State → Prop := va_Qi (fun r (_ : Unit) => r = out.1) (fun _ t => va_P D classes (wd_Shape_takeFraction cC cI a0_0 out.2) t.heap ∧ va_D A (wd_Shape_takeFraction cC cI a0_0 out.2)) A
abbrev rm_Shape_takeFraction : Room := { frames := 0, cells := 0, slots := 0, locals := 0 }
def J_Shape_takeFraction_30 (p : Program) (l : Launch) (e : Env) (s : State) (m : MethodId) (args : Array Value) (below : List Frame) (meth : Method) (c : Code) (A : Nat → Prop) (D : va_G) (cC cI : ClassId) (a0_0 : Nat) (out : O_Shape_takeFraction) (k : T_Shape → Int32 → Option O_Shape_takeFraction) : Prop := ∀ (v0 : T_Shape) (x1 : Int32) (ls : Array Slot) (H : Heap) (locs : List Loc), k v0 x1 = some out → lv_has ls 2 [(0, .ref a0_0), (1, .int x1)] → va_P D classes (wd_Shape_takeFraction cC cI a0_0 v0) H → va_D A (wd_Shape_takeFraction cC cI a0_0 v0) → va_S A s.heap H locs → W p l e rm_Shape_takeFraction s m args below meth c H locs 0 0 (MQ below (q_Shape_takeFraction D cC cI a0_0 out A) args s 0 0 A) (F0 m 30 ls [])
def J_Shape_takeFraction_38 (p : Program) (l : Launch) (e : Env) (s : State) (m : MethodId) (args : Array Value) (below : List Frame) (meth : Method) (c : Code) (A : Nat → Prop) (D : va_G) (cC cI : ClassId) (a0_0 : Nat) (out : O_Shape_takeFraction) (k : T_Shape → Option O_Shape_takeFraction) : Prop := ∀ (v0 : T_Shape) (ls : Array Slot) (H : Heap) (locs : List Loc), k v0 = some out → lv_has ls 2 [(0, .ref a0_0)] → va_P D classes (wd_Shape_takeFraction cC cI a0_0 v0) H → va_D A (wd_Shape_takeFraction cC cI a0_0 v0) → va_S A s.heap H locs → W p l e rm_Shape_takeFraction s m args below meth c H locs 0 0 (MQ below (q_Shape_takeFraction D cC cI a0_0 out A) args s 0 0 A) (F0 m 38 ls [])
def f_Shape_takeFraction_38 (v0 : T_Shape) : Option O_Shape_takeFraction := some ((1 : Int32), (v0.1, v0.2.1, v0.2.2.1, (v0.2.2.2.1 + (1 : Int32)), v0.2.2.2.2.1, v0.2.2.2.2.2.1, v0.2.2.2.2.2.2))
set_option maxHeartbeats 4000000 in
set_option maxRecDepth 100000 in
theorem w_Shape_takeFraction_38 {p : Program} {l : Launch} {e : Env} {s : State} {m : MethodId} {args : Array Value} {below : List Frame} {meth : Method} {c : Code} {A : Nat → Prop} {D : va_G} {cC cI : ClassId} {a0_0 : Nat} (X : xCX p s m args meth c A D cC cI b_Shape_takeFraction 2 R_Shape (some .boolean)) {out : O_Shape_takeFraction}   : J_Shape_takeFraction_38 p l e s m args below meth c A D cC cI a0_0 out (f_Shape_takeFraction_38  ) := by
  obtain ⟨hx, hb, hml, hown, htB, ⟨hK, hN⟩, hZ, hA, hr, hlocks⟩ := id X
  intro v0 ls H locs h hl hP hD hS
  refine lv_aload_n hx hb d_Shape_takeFraction_38 rfl (lv_at hl 0 rfl) ?_
  refine lv_dup hx hb d_Shape_takeFraction_39 rfl ?_
  refine va_get (D := D) (ci := 2) (v := .int v0.2.2.2.1) (C := R_Shape) (T := F_Shape) (N := 7) hx hb htB in_Shape hown hK hP 0 rfl rfl 3 (by decide) (htB _ b_31) (fun _ h9 => h9) rfl d_Shape_takeFraction_40 ?_
  refine lv_iconst (v := 1) hx hb d_Shape_takeFraction_43 (by decide) ?_
  refine lv_iadd hx hb d_Shape_takeFraction_44 ?_
  refine va_put (D := D) (ci := 2) (v := .int (v0.2.2.2.1 + (1 : Int32))) (ty := .int) (C := R_Shape) (T := F_Shape) (N := 7) hx hb htB in_Shape t_Shape t_Shape_ok n_Shape hown hK hP hD hS 0 rfl rfl 3 (by decide) (htB _ b_31) (fun _ h9 => h9) rfl (by decide +kernel) rfl rfl (Nat.le_of_ble_eq_true rfl) d_Shape_takeFraction_45 (fun H locs hP hD hS => ?_)
  have hP : va_P D classes (wd_Shape_takeFraction cC cI a0_0 (v0.1, v0.2.1, v0.2.2.1, (v0.2.2.2.1 + (1 : Int32)), v0.2.2.2.2.1, v0.2.2.2.2.2.1, v0.2.2.2.2.2.2)) H := hP
  have hD : va_D A (wd_Shape_takeFraction cC cI a0_0 (v0.1, v0.2.1, v0.2.2.1, (v0.2.2.2.1 + (1 : Int32)), v0.2.2.2.2.1, v0.2.2.2.2.2.1, v0.2.2.2.2.2.2)) := hD
  refine lv_iconst (v := 1) hx hb d_Shape_takeFraction_48 (by decide) ?_
  obtain rfl := Option.some.inj h
  exact W.zret (v := (1 : Int32)) (ty := .boolean) hx hb hr rfl (fun t ht hW => ⟨⟨(1 : Int32), (), rfl, rfl, by rw [ht]; exact hP, hD⟩, hS.F ht⟩) hS.2.2 d_Shape_takeFraction_49 hlocks

def f_Shape_takeFraction_30 (v0 : T_Shape) (x1 : Int32) : Option O_Shape_takeFraction := (if x1 = (35 : Int32) then f_Shape_takeFraction_38 v0 else some ((0 : Int32), v0))
set_option maxHeartbeats 4000000 in
set_option maxRecDepth 100000 in
theorem w_Shape_takeFraction_30 {p : Program} {l : Launch} {e : Env} {s : State} {m : MethodId} {args : Array Value} {below : List Frame} {meth : Method} {c : Code} {A : Nat → Prop} {D : va_G} {cC cI : ClassId} {a0_0 : Nat} (X : xCX p s m args meth c A D cC cI b_Shape_takeFraction 2 R_Shape (some .boolean)) {out : O_Shape_takeFraction}   : J_Shape_takeFraction_30 p l e s m args below meth c A D cC cI a0_0 out (f_Shape_takeFraction_30  ) := by
  obtain ⟨hx, hb, hml, hown, htB, ⟨hK, hN⟩, hZ, hA, hr, hlocks⟩ := id X
  intro v0 x1 ls H locs h hl hP hD hS
  refine lv_iload_n hx hb d_Shape_takeFraction_30 rfl (lv_at hl 1 rfl) ?_
  refine lv_bipush (v := 35) hx hb d_Shape_takeFraction_31 (by decide) ?_
  refine lv_icmp_eq (tgt := 38) hx hb d_Shape_takeFraction_33 rfl (fun hc => ?_) (fun hc => ?_)
  · have h := (if_pos hc).symm.trans h
    exact w_Shape_takeFraction_38 X v0 ls H locs h (lv_sub hl [0] rfl) hP hD hS
  have h := (if_neg hc).symm.trans h
  refine lv_iconst (v := 0) hx hb d_Shape_takeFraction_36 (by decide) ?_
  obtain rfl := Option.some.inj h
  exact W.zret (v := (0 : Int32)) (ty := .boolean) hx hb hr rfl (fun t ht hW => ⟨⟨(0 : Int32), (), rfl, rfl, by rw [ht]; exact hP, hD⟩, hS.F ht⟩) hS.2.2 d_Shape_takeFraction_37 hlocks

def f_Shape_takeFraction (v0 : T_Shape) (v1 : Int32) : Option O_Shape_takeFraction := (if v1 = (48 : Int32) then (if v0.2.2.2.1 = v0.2.2.1 then f_Shape_takeFraction_38 (v0.1, v0.2.1, (v0.2.2.1 + (1 : Int32)), v0.2.2.2.1, v0.2.2.2.2.1, v0.2.2.2.2.2.1, v0.2.2.2.2.2.2) else f_Shape_takeFraction_30 v0 v1) else f_Shape_takeFraction_30 v0 v1)
set_option maxHeartbeats 4000000 in
set_option maxRecDepth 100000 in
theorem w_Shape_takeFraction {p : Program} {l : Launch} {e : Env} {s : State} {m : MethodId} {args : Array Value} {below : List Frame} {meth : Method} {c : Code} {A : Nat → Prop} {D : va_G} {cC cI : ClassId} {a0_0 : Nat} (X : xCX p s m args meth c A D cC cI b_Shape_takeFraction 2 R_Shape (some .boolean)) {out : O_Shape_takeFraction} (v0 : T_Shape) (v1 : Int32) {ls : Array Slot} {H : Heap} {locs : List Loc} (h : f_Shape_takeFraction v0 v1 = some out) (hl : lv_has ls 2 [(0, .ref a0_0), (1, .int v1)]) (hP : va_P D classes (wd_Shape_takeFraction cC cI a0_0 v0) H) (hD : va_D A (wd_Shape_takeFraction cC cI a0_0 v0)) (hS : va_S A s.heap H locs) : W p l e rm_Shape_takeFraction s m args below meth c H locs 0 0 (MQ below (q_Shape_takeFraction D cC cI a0_0 out A) args s 0 0 A) (F0 m 0 ls []) := by
  obtain ⟨hx, hb, hml, hown, htB, ⟨hK, hN⟩, hZ, hA, hr, hlocks⟩ := id X
  refine lv_iload_n hx hb d_Shape_takeFraction_0 rfl (lv_at hl 1 rfl) ?_
  refine lv_bipush (v := 48) hx hb d_Shape_takeFraction_1 (by decide) ?_
  refine lv_icmp_ne (tgt := 30) hx hb d_Shape_takeFraction_3 rfl (fun hc => ?_) (fun hc => ?_)
  · have h := (if_neg hc).symm.trans h
    exact w_Shape_takeFraction_30 X v0 v1 ls H locs h (lv_sub hl [0, 1] rfl) hP hD hS
  have h := (if_pos hc).symm.trans h
  refine lv_aload_n hx hb d_Shape_takeFraction_6 rfl (lv_at hl 0 rfl) ?_
  refine va_get (D := D) (ci := 2) (v := .int v0.2.2.2.1) (C := R_Shape) (T := F_Shape) (N := 7) hx hb htB in_Shape hown hK hP 0 rfl rfl 3 (by decide) (htB _ b_31) (fun _ h9 => h9) rfl d_Shape_takeFraction_7 ?_
  refine lv_aload_n hx hb d_Shape_takeFraction_10 rfl (lv_at hl 0 rfl) ?_
  refine va_get (D := D) (ci := 2) (v := .int v0.2.2.1) (C := R_Shape) (T := F_Shape) (N := 7) hx hb htB in_Shape hown hK hP 0 rfl rfl 2 (by decide) (htB _ b_30) (fun _ h9 => h9) rfl d_Shape_takeFraction_11 ?_
  refine lv_icmp_ne (tgt := 30) hx hb d_Shape_takeFraction_14 rfl (fun hc => ?_) (fun hc => ?_)
  · have h := (if_neg hc).symm.trans h
    exact w_Shape_takeFraction_30 X v0 v1 ls H locs h (lv_sub hl [0, 1] rfl) hP hD hS
  have h := (if_pos hc).symm.trans h
  refine lv_aload_n hx hb d_Shape_takeFraction_17 rfl (lv_at hl 0 rfl) ?_
  refine lv_dup hx hb d_Shape_takeFraction_18 rfl ?_
  refine va_get (D := D) (ci := 2) (v := .int v0.2.2.1) (C := R_Shape) (T := F_Shape) (N := 7) hx hb htB in_Shape hown hK hP 0 rfl rfl 2 (by decide) (htB _ b_30) (fun _ h9 => h9) rfl d_Shape_takeFraction_19 ?_
  refine lv_iconst (v := 1) hx hb d_Shape_takeFraction_22 (by decide) ?_
  refine lv_iadd hx hb d_Shape_takeFraction_23 ?_
  refine va_put (D := D) (ci := 2) (v := .int (v0.2.2.1 + (1 : Int32))) (ty := .int) (C := R_Shape) (T := F_Shape) (N := 7) hx hb htB in_Shape t_Shape t_Shape_ok n_Shape hown hK hP hD hS 0 rfl rfl 2 (by decide) (htB _ b_30) (fun _ h9 => h9) rfl (by decide +kernel) rfl rfl (Nat.le_of_ble_eq_true rfl) d_Shape_takeFraction_24 (fun H locs hP hD hS => ?_)
  have hP : va_P D classes (wd_Shape_takeFraction cC cI a0_0 (v0.1, v0.2.1, (v0.2.2.1 + (1 : Int32)), v0.2.2.2.1, v0.2.2.2.2.1, v0.2.2.2.2.2.1, v0.2.2.2.2.2.2)) H := hP
  have hD : va_D A (wd_Shape_takeFraction cC cI a0_0 (v0.1, v0.2.1, (v0.2.2.1 + (1 : Int32)), v0.2.2.2.1, v0.2.2.2.2.1, v0.2.2.2.2.2.1, v0.2.2.2.2.2.2)) := hD
  refine lv_goto (tgt := 38) hx hb d_Shape_takeFraction_27 rfl ?_
  exact w_Shape_takeFraction_38 X (v0.1, v0.2.1, (v0.2.2.1 + (1 : Int32)), v0.2.2.2.1, v0.2.2.2.2.1, v0.2.2.2.2.2.1, v0.2.2.2.2.2.2) ls H locs h (lv_sub hl [0] rfl) hP hD hS

set_option maxHeartbeats 4000000 in
set_option maxRecDepth 100000 in
theorem c_Shape_takeFraction (l : Launch) (D : va_G) (cC cI : ClassId) (sz : Nat) (a0_0 : Nat) (v0 : T_Shape) (v1 : Int32) (out : O_Shape_takeFraction) (h : f_Shape_takeFraction v0 v1 = some out) : Met l y_Shape_takeFraction (.code y_Shape_takeFraction b_Shape_takeFraction 2 (some .boolean) :: BIG) rm_Shape_takeFraction (va_Pc [.ref a0_0, .int v1] (xPre D cC cI (wd_Shape_takeFraction cC cI a0_0 v0) sz)) (q_Shape_takeFraction D cC cI a0_0 out (va_A (wd_Shape_takeFraction cC cI a0_0 v0) sz)) 0 0 (va_A (wd_Shape_takeFraction cC cI a0_0 v0) sz) := by
  refine Met.ofW (cc := b_Shape_takeFraction) (maxL := 2) (ret := (some .boolean)) (by decide) rfl ?_
  intro p e s m args below meth c s₁ B hml hv
  obtain ⟨rfl, rfl, hP, hD0, hG, hZ⟩ := hv
  have hl := lv_entry [.ref a0_0, .int v1] (n := 2) (Nat.le_of_ble_eq_true rfl)
  rw [lg_entry_eq]
  exact w_Shape_takeFraction (x_cx B hml hG hZ) v0 v1 h hl hP hD0.self va_S.rf

abbrev wd_Shape_allowsExponent (cC cI : ClassId) (a0_0 : Nat) (v0 : T_Shape) : va_W := [(a0_0, .inr (2, [.int v0.1, .int v0.2.1, .int v0.2.2.1, .int v0.2.2.2.1, .int v0.2.2.2.2.1, .int v0.2.2.2.2.2.1, .int v0.2.2.2.2.2.2]))]
abbrev O_Shape_allowsExponent : Type := Int32
abbrev q_Shape_allowsExponent (D : va_G) (cC cI : ClassId) (a0_0 : Nat) (v0 : T_Shape) (out : O_Shape_allowsExponent) (A : Nat → Prop) : Array Value → State → Outcome → State → Prop := va_Qi (fun r (_ : Unit) => r = out) (fun _ t => va_P D classes (wd_Shape_allowsExponent cC cI a0_0 v0) t.heap ∧ va_D A (wd_Shape_allowsExponent cC cI a0_0 v0)) A
abbrev rm_Shape_allowsExponent : Room := { frames := 0, cells := 0, slots := 0, locals := 0 }
def J_Shape_allowsExponent_18 (p : Program) (l : Launch) (e : Env) (s : State) (m : MethodId) (args : Array Value) (below : List Frame) (meth : Method) (c : Code) (A : Nat → Prop) (D : va_G) (cC cI : ClassId) (a0_0 : Nat) (v0 : T_Shape) (out : O_Shape_allowsExponent) (k : Option O_Shape_allowsExponent) : Prop := ∀  (ls : Array Slot) (H : Heap) (locs : List Loc), k  = some out → lv_has ls 1 [] → va_P D classes (wd_Shape_allowsExponent cC cI a0_0 v0) H → va_D A (wd_Shape_allowsExponent cC cI a0_0 v0) → va_S A s.heap H locs → W p l e rm_Shape_allowsExponent s m args below meth c H locs 0 0 (MQ below (q_Shape_allowsExponent D cC cI a0_0 v0 out A) args s 0 0 A) (F0 m 18 ls [])
def J_Shape_allowsExponent_19 (p : Program) (l : Launch) (e : Env) (s : State) (m : MethodId) (args : Array Value) (below : List Frame) (meth : Method) (c : Code) (A : Nat → Prop) (D : va_G) (cC cI : ClassId) (a0_0 : Nat) (v0 : T_Shape) (out : O_Shape_allowsExponent) (k : Int32 → Option O_Shape_allowsExponent) : Prop := ∀ (s0 : Int32) (ls : Array Slot) (H : Heap) (locs : List Loc), k s0 = some out → lv_has ls 1 [] → va_P D classes (wd_Shape_allowsExponent cC cI a0_0 v0) H → va_D A (wd_Shape_allowsExponent cC cI a0_0 v0) → va_S A s.heap H locs → W p l e rm_Shape_allowsExponent s m args below meth c H locs 0 0 (MQ below (q_Shape_allowsExponent D cC cI a0_0 v0 out A) args s 0 0 A) (F0 m 19 ls [.int s0])
def f_Shape_allowsExponent_19 (v0 : T_Shape) (s0 : Int32) : Option O_Shape_allowsExponent := if (s0 = 0 ∨ s0 = 1) then some s0 else none
set_option maxHeartbeats 4000000 in
set_option maxRecDepth 100000 in
theorem w_Shape_allowsExponent_19 {p : Program} {l : Launch} {e : Env} {s : State} {m : MethodId} {args : Array Value} {below : List Frame} {meth : Method} {c : Code} {A : Nat → Prop} {D : va_G} {cC cI : ClassId} {a0_0 : Nat} {v0 : T_Shape} (X : xCX p s m args meth c A D cC cI b_Shape_allowsExponent 1 R_Shape (some .boolean)) {out : O_Shape_allowsExponent}   : J_Shape_allowsExponent_19 p l e s m args below meth c A D cC cI a0_0 v0 out (f_Shape_allowsExponent_19 v0 ) := by
  obtain ⟨hx, hb, hml, hown, htB, ⟨hK, hN⟩, hZ, hA, hr, hlocks⟩ := id X
  intro s0 ls H locs h hl hP hD hS
  obtain ⟨hc, h⟩ := x_chk h
  obtain rfl := Option.some.inj h
  exact W.zret (v := s0) (ty := .boolean) hx hb hr (x_zn hc) (fun t ht hW => ⟨⟨s0, (), rfl, rfl, by rw [ht]; exact hP, hD⟩, hS.F ht⟩) hS.2.2 d_Shape_allowsExponent_19 hlocks

def f_Shape_allowsExponent_18 (v0 : T_Shape) : Option O_Shape_allowsExponent := f_Shape_allowsExponent_19 v0 (0 : Int32)
set_option maxHeartbeats 4000000 in
set_option maxRecDepth 100000 in
theorem w_Shape_allowsExponent_18 {p : Program} {l : Launch} {e : Env} {s : State} {m : MethodId} {args : Array Value} {below : List Frame} {meth : Method} {c : Code} {A : Nat → Prop} {D : va_G} {cC cI : ClassId} {a0_0 : Nat} {v0 : T_Shape} (X : xCX p s m args meth c A D cC cI b_Shape_allowsExponent 1 R_Shape (some .boolean)) {out : O_Shape_allowsExponent}   : J_Shape_allowsExponent_18 p l e s m args below meth c A D cC cI a0_0 v0 out (f_Shape_allowsExponent_18 v0 ) := by
  obtain ⟨hx, hb, hml, hown, htB, ⟨hK, hN⟩, hZ, hA, hr, hlocks⟩ := id X
  intro  ls H locs h hl hP hD hS
  refine lv_iconst (v := 0) hx hb d_Shape_allowsExponent_18 (by decide) ?_
  exact w_Shape_allowsExponent_19 X (0 : Int32) ls H locs h (lv_sub hl [] rfl) hP hD hS

def f_Shape_allowsExponent (v0 : T_Shape) : Option O_Shape_allowsExponent := (if v0.1 = 0 then (if v0.2.2.2.2.1 = 0 then f_Shape_allowsExponent_19 v0 (1 : Int32) else f_Shape_allowsExponent_18 v0) else f_Shape_allowsExponent_18 v0)
set_option maxHeartbeats 4000000 in
set_option maxRecDepth 100000 in
theorem w_Shape_allowsExponent {p : Program} {l : Launch} {e : Env} {s : State} {m : MethodId} {args : Array Value} {below : List Frame} {meth : Method} {c : Code} {A : Nat → Prop} {D : va_G} {cC cI : ClassId} {a0_0 : Nat} {v0 : T_Shape} (X : xCX p s m args meth c A D cC cI b_Shape_allowsExponent 1 R_Shape (some .boolean)) {out : O_Shape_allowsExponent}  {ls : Array Slot} {H : Heap} {locs : List Loc} (h : f_Shape_allowsExponent v0 = some out) (hl : lv_has ls 1 [(0, .ref a0_0)]) (hP : va_P D classes (wd_Shape_allowsExponent cC cI a0_0 v0) H) (hD : va_D A (wd_Shape_allowsExponent cC cI a0_0 v0)) (hS : va_S A s.heap H locs) : W p l e rm_Shape_allowsExponent s m args below meth c H locs 0 0 (MQ below (q_Shape_allowsExponent D cC cI a0_0 v0 out A) args s 0 0 A) (F0 m 0 ls []) := by
  obtain ⟨hx, hb, hml, hown, htB, ⟨hK, hN⟩, hZ, hA, hr, hlocks⟩ := id X
  refine lv_aload_n hx hb d_Shape_allowsExponent_0 rfl (lv_at hl 0 rfl) ?_
  refine va_get (D := D) (ci := 2) (v := .int v0.1) (C := R_Shape) (T := F_Shape) (N := 7) hx hb htB in_Shape hown hK hP 0 rfl rfl 0 (by decide) (htB _ b_28) (fun _ h9 => h9) rfl d_Shape_allowsExponent_1 ?_
  refine lv_if_ne (tgt := 18) hx hb d_Shape_allowsExponent_4 rfl (fun hc => ?_) (fun hc => ?_)
  · have h := (if_neg hc).symm.trans h
    exact w_Shape_allowsExponent_18 X ls H locs h (lv_sub hl [] rfl) hP hD hS
  have h := (if_pos hc).symm.trans h
  refine lv_aload_n hx hb d_Shape_allowsExponent_7 rfl (lv_at hl 0 rfl) ?_
  refine va_get (D := D) (ci := 2) (v := .int v0.2.2.2.2.1) (C := R_Shape) (T := F_Shape) (N := 7) hx hb htB in_Shape hown hK hP 0 rfl rfl 4 (by decide) (htB _ b_32) (fun _ h9 => h9) rfl d_Shape_allowsExponent_8 ?_
  refine lv_if_ne (tgt := 18) hx hb d_Shape_allowsExponent_11 rfl (fun hc => ?_) (fun hc => ?_)
  · have h := (if_neg hc).symm.trans h
    exact w_Shape_allowsExponent_18 X ls H locs h (lv_sub hl [] rfl) hP hD hS
  have h := (if_pos hc).symm.trans h
  refine lv_iconst (v := 1) hx hb d_Shape_allowsExponent_14 (by decide) ?_
  refine lv_goto (tgt := 19) hx hb d_Shape_allowsExponent_15 rfl ?_
  exact w_Shape_allowsExponent_19 X (1 : Int32) ls H locs h (lv_sub hl [] rfl) hP hD hS

set_option maxHeartbeats 4000000 in
set_option maxRecDepth 100000 in
theorem c_Shape_allowsExponent (l : Launch) (D : va_G) (cC cI : ClassId) (sz : Nat) (a0_0 : Nat) (v0 : T_Shape) (out : O_Shape_allowsExponent) (h : f_Shape_allowsExponent v0 = some out) : Met l y_Shape_allowsExponent (.code y_Shape_allowsExponent b_Shape_allowsExponent 1 (some .boolean) :: BIG) rm_Shape_allowsExponent (va_Pc [.ref a0_0] (xPre D cC cI (wd_Shape_allowsExponent cC cI a0_0 v0) sz)) (q_Shape_allowsExponent D cC cI a0_0 v0 out (va_A (wd_Shape_allowsExponent cC cI a0_0 v0) sz)) 0 0 (va_A (wd_Shape_allowsExponent cC cI a0_0 v0) sz) := by
  refine Met.ofW (cc := b_Shape_allowsExponent) (maxL := 1) (ret := (some .boolean)) (by decide) rfl ?_
  intro p e s m args below meth c s₁ B hml hv
  obtain ⟨rfl, rfl, hP, hD0, hG, hZ⟩ := hv
  have hl := lv_entry [.ref a0_0] (n := 1) (Nat.le_of_ble_eq_true rfl)
  rw [lg_entry_eq]
  exact w_Shape_allowsExponent (x_cx B hml hG hZ) h hl hP hD0.self va_S.rf

abbrev wd_Pattern_complete (cC cI : ClassId) (a0_0 a0_1 a0_2 a0_3 a0_4 a0_5 a0_6 a0_7 a0_8 a0_9 a0_10 a0_11 a0_12 : Nat) (v0 : T_Pattern) : va_W := [(a0_0, .inr (4, [.ref a0_1, .ref a0_7, .int v0.2.2.1, .int v0.2.2.2])), (a0_1, .inr (3, [.ref a0_2, .ref a0_4, .ref a0_5])), (a0_2, .inr (1, [.ref a0_3, .int v0.1.1.2])), (a0_3, .inl (cI, 120, .inl v0.1.1.1)), (a0_4, .inr (2, [.int v0.1.2.1.1, .int v0.1.2.1.2.1, .int v0.1.2.1.2.2.1, .int v0.1.2.1.2.2.2.1, .int v0.1.2.1.2.2.2.2.1, .int v0.1.2.1.2.2.2.2.2.1, .int v0.1.2.1.2.2.2.2.2.2])), (a0_5, .inr (1, [.ref a0_6, .int v0.1.2.2.2])), (a0_6, .inl (cI, 120, .inl v0.1.2.2.1)), (a0_7, .inr (3, [.ref a0_8, .ref a0_10, .ref a0_11])), (a0_8, .inr (1, [.ref a0_9, .int v0.2.1.1.2])), (a0_9, .inl (cI, 120, .inl v0.2.1.1.1)), (a0_10, .inr (2, [.int v0.2.1.2.1.1, .int v0.2.1.2.1.2.1, .int v0.2.1.2.1.2.2.1, .int v0.2.1.2.1.2.2.2.1, .int v0.2.1.2.1.2.2.2.2.1, .int v0.2.1.2.1.2.2.2.2.2.1, .int v0.2.1.2.1.2.2.2.2.2.2])), (a0_11, .inr (1, [.ref a0_12, .int v0.2.1.2.2.2])), (a0_12, .inl (cI, 120, .inl v0.2.1.2.2.1))]
abbrev O_Pattern_complete : Type := T_Pattern
abbrev q_Pattern_complete (D : va_G) (cC cI : ClassId) (a0_0 a0_1 a0_2 a0_3 a0_4 a0_5 a0_6 a0_7 a0_8 a0_9 a0_10 a0_11 a0_12 : Nat)  (out : O_Pattern_complete) (A : Nat → Prop) : Array Value → State → Outcome → State → Prop := va_Qv (fun _ : Unit => True) (fun _ t => va_P D classes (wd_Pattern_complete cC cI a0_0 a0_1 a0_2 a0_3 a0_4 a0_5 a0_6 a0_7 a0_8 a0_9 a0_10 a0_11 a0_12 out) t.heap ∧ va_D A (wd_Pattern_complete cC cI a0_0 a0_1 a0_2 a0_3 a0_4 a0_5 a0_6 a0_7 a0_8 a0_9 a0_10 a0_11 a0_12 out)) A
abbrev rm_Pattern_complete : Room := { frames := 2, cells := 0, slots := 0, locals := 43 }
def J_Pattern_complete_27 (p : Program) (l : Launch) (e : Env) (s : State) (m : MethodId) (args : Array Value) (below : List Frame) (meth : Method) (c : Code) (A : Nat → Prop) (D : va_G) (cC cI : ClassId) (a0_0 a0_1 a0_2 a0_3 a0_4 a0_5 a0_6 a0_7 a0_8 a0_9 a0_10 a0_11 a0_12 : Nat) (out : O_Pattern_complete) (k : T_Pattern → Option O_Pattern_complete) : Prop := ∀ (v0 : T_Pattern) (ls : Array Slot) (H : Heap) (locs : List Loc), k v0 = some out → lv_has ls 1 [(0, .ref a0_0)] → va_P D classes (wd_Pattern_complete cC cI a0_0 a0_1 a0_2 a0_3 a0_4 a0_5 a0_6 a0_7 a0_8 a0_9 a0_10 a0_11 a0_12 v0) H → va_D A (wd_Pattern_complete cC cI a0_0 a0_1 a0_2 a0_3 a0_4 a0_5 a0_6 a0_7 a0_8 a0_9 a0_10 a0_11 a0_12 v0) → va_S A s.heap H locs → W p l e rm_Pattern_complete s m args below meth c H locs 0 0 (MQ below (q_Pattern_complete D cC cI a0_0 a0_1 a0_2 a0_3 a0_4 a0_5 a0_6 a0_7 a0_8 a0_9 a0_10 a0_11 a0_12 out A) args s 0 0 A) (F0 m 27 ls [.ref a0_0])
def J_Pattern_complete_32 (p : Program) (l : Launch) (e : Env) (s : State) (m : MethodId) (args : Array Value) (below : List Frame) (meth : Method) (c : Code) (A : Nat → Prop) (D : va_G) (cC cI : ClassId) (a0_0 a0_1 a0_2 a0_3 a0_4 a0_5 a0_6 a0_7 a0_8 a0_9 a0_10 a0_11 a0_12 : Nat) (out : O_Pattern_complete) (k : T_Pattern → Int32 → Option O_Pattern_complete) : Prop := ∀ (v0 : T_Pattern) (s1 : Int32) (ls : Array Slot) (H : Heap) (locs : List Loc), k v0 s1 = some out → lv_has ls 1 [(0, .ref a0_0)] → va_P D classes (wd_Pattern_complete cC cI a0_0 a0_1 a0_2 a0_3 a0_4 a0_5 a0_6 a0_7 a0_8 a0_9 a0_10 a0_11 a0_12 v0) H → va_D A (wd_Pattern_complete cC cI a0_0 a0_1 a0_2 a0_3 a0_4 a0_5 a0_6 a0_7 a0_8 a0_9 a0_10 a0_11 a0_12 v0) → va_S A s.heap H locs → W p l e rm_Pattern_complete s m args below meth c H locs 0 0 (MQ below (q_Pattern_complete D cC cI a0_0 a0_1 a0_2 a0_3 a0_4 a0_5 a0_6 a0_7 a0_8 a0_9 a0_10 a0_11 a0_12 out A) args s 0 0 A) (F0 m 32 ls [.int s1, .ref a0_0])
def J_Pattern_complete_108 (p : Program) (l : Launch) (e : Env) (s : State) (m : MethodId) (args : Array Value) (below : List Frame) (meth : Method) (c : Code) (A : Nat → Prop) (D : va_G) (cC cI : ClassId) (a0_0 a0_1 a0_2 a0_3 a0_4 a0_5 a0_6 a0_7 a0_8 a0_9 a0_10 a0_11 a0_12 : Nat) (out : O_Pattern_complete) (k : T_Pattern → Option O_Pattern_complete) : Prop := ∀ (v0 : T_Pattern) (ls : Array Slot) (H : Heap) (locs : List Loc), k v0 = some out → lv_has ls 1 [] → va_P D classes (wd_Pattern_complete cC cI a0_0 a0_1 a0_2 a0_3 a0_4 a0_5 a0_6 a0_7 a0_8 a0_9 a0_10 a0_11 a0_12 v0) H → va_D A (wd_Pattern_complete cC cI a0_0 a0_1 a0_2 a0_3 a0_4 a0_5 a0_6 a0_7 a0_8 a0_9 a0_10 a0_11 a0_12 v0) → va_S A s.heap H locs → W p l e rm_Pattern_complete s m args below meth c H locs 0 0 (MQ below (q_Pattern_complete D cC cI a0_0 a0_1 a0_2 a0_3 a0_4 a0_5 a0_6 a0_7 a0_8 a0_9 a0_10 a0_11 a0_12 out A) args s 0 0 A) (F0 m 108 ls [])
def f_Pattern_complete_108 (v0 : T_Pattern) : Option O_Pattern_complete := some v0
set_option maxHeartbeats 4000000 in
set_option maxRecDepth 100000 in
theorem w_Pattern_complete_108 {p : Program} {l : Launch} {e : Env} {s : State} {m : MethodId} {args : Array Value} {below : List Frame} {meth : Method} {c : Code} {A : Nat → Prop} {D : va_G} {cC cI : ClassId} {a0_0 a0_1 a0_2 a0_3 a0_4 a0_5 a0_6 a0_7 a0_8 a0_9 a0_10 a0_11 a0_12 : Nat} (X : xCX p s m args meth c A D cC cI b_Pattern_complete 1 R_Pattern none) {out : O_Pattern_complete}   : J_Pattern_complete_108 p l e s m args below meth c A D cC cI a0_0 a0_1 a0_2 a0_3 a0_4 a0_5 a0_6 a0_7 a0_8 a0_9 a0_10 a0_11 a0_12 out (f_Pattern_complete_108  ) := by
  obtain ⟨hx, hb, hml, hown, htB, ⟨hK, hN⟩, hZ, hA, hr, hlocks⟩ := id X
  intro v0 ls H locs h hl hP hD hS
  obtain rfl := Option.some.inj h
  exact W.vret hx hb hr (fun t ht hW => ⟨⟨(), rfl, trivial, by rw [ht]; exact hP, hD⟩, hS.F ht⟩) hS.2.2 d_Pattern_complete_108 hlocks

def f_Pattern_complete_32 (v0 : T_Pattern) (s1 : Int32) : Option O_Pattern_complete := if (s1 = 0 ∨ s1 = 1) then (if v0.2.2.1 = 0 then (f_Affix_clear v0.2.1.1).bind (fun o49 => (f_Affix_add o49 (45 : Int32)).bind (fun o61 => (f_Affix_addAll o61 v0.1.1).bind (fun o78 => (f_Affix_clear v0.2.1.2.2).bind (fun o88 => (f_Affix_addAll o88 v0.1.2.2).bind (fun o105 => f_Pattern_complete_108 (v0.1, (o78, v0.2.1.2.1, o105), v0.2.2.1, s1)))))) else f_Pattern_complete_108 (v0.1, v0.2.1, v0.2.2.1, s1)) else none
set_option maxHeartbeats 4000000 in
set_option maxRecDepth 100000 in
theorem w_Pattern_complete_32 {p : Program} {l : Launch} {e : Env} {s : State} {m : MethodId} {args : Array Value} {below : List Frame} {meth : Method} {c : Code} {A : Nat → Prop} {D : va_G} {cC cI : ClassId} {a0_0 a0_1 a0_2 a0_3 a0_4 a0_5 a0_6 a0_7 a0_8 a0_9 a0_10 a0_11 a0_12 : Nat} (X : xCX p s m args meth c A D cC cI b_Pattern_complete 1 R_Pattern none) {out : O_Pattern_complete}   : J_Pattern_complete_32 p l e s m args below meth c A D cC cI a0_0 a0_1 a0_2 a0_3 a0_4 a0_5 a0_6 a0_7 a0_8 a0_9 a0_10 a0_11 a0_12 out (f_Pattern_complete_32  ) := by
  obtain ⟨hx, hb, hml, hown, htB, ⟨hK, hN⟩, hZ, hA, hr, hlocks⟩ := id X
  intro v0 s1 ls H locs h hl hP hD hS
  obtain ⟨hc, h⟩ := x_chk h
  refine va_put (D := D) (ci := 4) (v := .int s1) (ty := .boolean) (C := R_Pattern) (T := F_Pattern) (N := 4) hx hb htB in_Pattern t_Pattern t_Pattern_ok n_Pattern hown hK hP hD hS 0 rfl rfl 3 (by decide) (htB _ b_39) (fun _ h9 => h9) rfl (by decide +kernel) (x_zn hc) (x_zf hc) (Nat.le_of_ble_eq_true rfl) d_Pattern_complete_32 (fun H locs hP hD hS => ?_)
  have hP : va_P D classes (wd_Pattern_complete cC cI a0_0 a0_1 a0_2 a0_3 a0_4 a0_5 a0_6 a0_7 a0_8 a0_9 a0_10 a0_11 a0_12 (v0.1, v0.2.1, v0.2.2.1, s1)) H := hP
  have hD : va_D A (wd_Pattern_complete cC cI a0_0 a0_1 a0_2 a0_3 a0_4 a0_5 a0_6 a0_7 a0_8 a0_9 a0_10 a0_11 a0_12 (v0.1, v0.2.1, v0.2.2.1, s1)) := hD
  refine lv_aload_n hx hb d_Pattern_complete_35 rfl (lv_at hl 0 rfl) ?_
  refine va_get (D := D) (ci := 4) (v := .int v0.2.2.1) (C := R_Pattern) (T := F_Pattern) (N := 4) hx hb htB in_Pattern hown hK hP 0 rfl rfl 2 (by decide) (htB _ b_40) (fun _ h9 => h9) rfl d_Pattern_complete_36 ?_
  refine lv_if_ne (tgt := 108) hx hb d_Pattern_complete_39 rfl (fun hc => ?_) (fun hc => ?_)
  · have h := (if_neg hc).symm.trans h
    exact w_Pattern_complete_108 X (v0.1, v0.2.1, v0.2.2.1, s1) ls H locs h (lv_sub hl [] rfl) hP hD hS
  have h := (if_pos hc).symm.trans h
  refine lv_aload_n hx hb d_Pattern_complete_42 rfl (lv_at hl 0 rfl) ?_
  refine va_get (D := D) (ci := 4) (v := .ref a0_7) (C := R_Pattern) (T := F_Pattern) (N := 4) hx hb htB in_Pattern hown hK hP 0 rfl rfl 1 (by decide) (htB _ b_41) (fun _ h9 => h9) rfl d_Pattern_complete_43 ?_
  refine va_getN (D := D) (ci := 3) (v := .ref a0_8) (C := R_Part) (T := F_Part) (N := 3) hx hb htB in_Part hown hK hP 7 rfl rfl 0 (by decide) (va_Nw.use rfl (hN _ n_2)) (fun _ h9 => h9) rfl d_Pattern_complete_46 ?_
  obtain ⟨o49, ho49, h⟩ := x_bnd h
  refine x_callv (ws2 := (wd_Pattern_complete cC cI a0_0 a0_1 a0_2 a0_3 a0_4 a0_5 a0_6 a0_7 a0_8 a0_9 a0_10 a0_11 a0_12 (v0.1, (o49, v0.2.1.2.1, v0.2.1.2.2), v0.2.2.1, s1))) (x_runVN (As := []) (rest := []) X (c_Affix_clear l D cC cI H.size a0_8 a0_9 v0.2.1.1 o49 ho49) b_42 0 (hN _ n_4) (htB _ b_43) (htB _ b_44) (htB _ b_9) ⟨by decide, by decide, by decide +kernel⟩ ⟨(Nat.le_of_ble_eq_true rfl), (Nat.le_of_ble_eq_true rfl)⟩ 8 rfl rfl hP hD hS [8, 9] rfl (by decide) rfl rfl hl.1 rfl rfl (Nat.le_of_ble_eq_true rfl) d_Pattern_complete_49) hP hD hS hA [8, 9] [0, 1, 2, 3, 4, 5, 6, 7, 10, 11, 12] [0, 1, 2, 3, 4, 5, 6, 7, 11, 12, 8, 9, 10] rfl rfl (by decide) (by decide) rfl (by decide) (fun H locs hP hD hS => ?_)
  refine lv_aload_n hx hb d_Pattern_complete_52 rfl (lv_at hl 0 rfl) ?_
  refine va_get (D := D) (ci := 4) (v := .ref a0_7) (C := R_Pattern) (T := F_Pattern) (N := 4) hx hb htB in_Pattern hown hK hP 0 rfl rfl 1 (by decide) (htB _ b_41) (fun _ h9 => h9) rfl d_Pattern_complete_53 ?_
  refine va_getN (D := D) (ci := 3) (v := .ref a0_8) (C := R_Part) (T := F_Part) (N := 3) hx hb htB in_Part hown hK hP 7 rfl rfl 0 (by decide) (va_Nw.use rfl (hN _ n_2)) (fun _ h9 => h9) rfl d_Pattern_complete_56 ?_
  refine lv_bipush (v := 45) hx hb d_Pattern_complete_59 (by decide) ?_
  obtain ⟨o61, ho61, h⟩ := x_bnd h
  refine x_callv (ws2 := (wd_Pattern_complete cC cI a0_0 a0_1 a0_2 a0_3 a0_4 a0_5 a0_6 a0_7 a0_8 a0_9 a0_10 a0_11 a0_12 (v0.1, (o61, v0.2.1.2.1, v0.2.1.2.2), v0.2.2.1, s1))) (x_runVN (As := [.int (45 : Int32)]) (rest := []) X (c_Affix_add l D cC cI H.size a0_8 a0_9 o49 (45 : Int32) o61 ho61) b_13 1 (hN _ n_5) (htB _ b_14) (htB _ b_15) (htB _ b_9) ⟨by decide, by decide, by decide +kernel⟩ ⟨(Nat.le_of_ble_eq_true rfl), (Nat.le_of_ble_eq_true rfl)⟩ 8 rfl rfl hP hD hS [8, 9] rfl (by decide) rfl rfl hl.1 rfl rfl (Nat.le_of_ble_eq_true rfl) d_Pattern_complete_61) hP hD hS hA [8, 9] [0, 1, 2, 3, 4, 5, 6, 7, 10, 11, 12] [0, 1, 2, 3, 4, 5, 6, 7, 11, 12, 8, 9, 10] rfl rfl (by decide) (by decide) rfl (by decide) (fun H locs hP hD hS => ?_)
  refine lv_aload_n hx hb d_Pattern_complete_64 rfl (lv_at hl 0 rfl) ?_
  refine va_get (D := D) (ci := 4) (v := .ref a0_7) (C := R_Pattern) (T := F_Pattern) (N := 4) hx hb htB in_Pattern hown hK hP 0 rfl rfl 1 (by decide) (htB _ b_41) (fun _ h9 => h9) rfl d_Pattern_complete_65 ?_
  refine va_getN (D := D) (ci := 3) (v := .ref a0_8) (C := R_Part) (T := F_Part) (N := 3) hx hb htB in_Part hown hK hP 7 rfl rfl 0 (by decide) (va_Nw.use rfl (hN _ n_2)) (fun _ h9 => h9) rfl d_Pattern_complete_68 ?_
  refine lv_aload_n hx hb d_Pattern_complete_71 rfl (lv_at hl 0 rfl) ?_
  refine va_get (D := D) (ci := 4) (v := .ref a0_1) (C := R_Pattern) (T := F_Pattern) (N := 4) hx hb htB in_Pattern hown hK hP 0 rfl rfl 0 (by decide) (htB _ b_35) (fun _ h9 => h9) rfl d_Pattern_complete_72 ?_
  refine va_getN (D := D) (ci := 3) (v := .ref a0_2) (C := R_Part) (T := F_Part) (N := 3) hx hb htB in_Part hown hK hP 1 rfl rfl 0 (by decide) (va_Nw.use rfl (hN _ n_2)) (fun _ h9 => h9) rfl d_Pattern_complete_75 ?_
  obtain ⟨o78, ho78, h⟩ := x_bnd h
  refine x_callv (ws2 := (wd_Pattern_complete cC cI a0_0 a0_1 a0_2 a0_3 a0_4 a0_5 a0_6 a0_7 a0_8 a0_9 a0_10 a0_11 a0_12 (v0.1, (o78, v0.2.1.2.1, v0.2.1.2.2), v0.2.2.1, s1))) (x_runVN (As := [.ref a0_2]) (rest := []) X (c_Affix_addAll l D cC cI H.size a0_8 a0_9 a0_2 a0_3 o61 v0.1.1 o78 ho78) b_45 1 (hN _ n_6) (htB _ b_46) (htB _ b_47) (htB _ b_9) ⟨by decide, by decide, by decide +kernel⟩ ⟨(Nat.le_of_ble_eq_true rfl), (Nat.le_of_ble_eq_true rfl)⟩ 8 rfl rfl hP hD hS [8, 9, 2, 3] rfl (by decide) rfl rfl hl.1 rfl rfl (Nat.le_of_ble_eq_true rfl) d_Pattern_complete_78) hP hD hS hA [8, 9, 2, 3] [0, 1, 4, 5, 6, 7, 10, 11, 12] [0, 1, 11, 12, 2, 3, 4, 5, 9, 10, 6, 7, 8] rfl rfl (by decide) (by decide) rfl (by decide) (fun H locs hP hD hS => ?_)
  refine lv_aload_n hx hb d_Pattern_complete_81 rfl (lv_at hl 0 rfl) ?_
  refine va_get (D := D) (ci := 4) (v := .ref a0_7) (C := R_Pattern) (T := F_Pattern) (N := 4) hx hb htB in_Pattern hown hK hP 0 rfl rfl 1 (by decide) (htB _ b_41) (fun _ h9 => h9) rfl d_Pattern_complete_82 ?_
  refine va_getN (D := D) (ci := 3) (v := .ref a0_11) (C := R_Part) (T := F_Part) (N := 3) hx hb htB in_Part hown hK hP 7 rfl rfl 2 (by decide) (va_Nw.use rfl (hN _ n_7)) (fun _ h9 => h9) rfl d_Pattern_complete_85 ?_
  obtain ⟨o88, ho88, h⟩ := x_bnd h
  refine x_callv (ws2 := (wd_Pattern_complete cC cI a0_0 a0_1 a0_2 a0_3 a0_4 a0_5 a0_6 a0_7 a0_8 a0_9 a0_10 a0_11 a0_12 (v0.1, (o78, v0.2.1.2.1, o88), v0.2.2.1, s1))) (x_runVN (As := []) (rest := []) X (c_Affix_clear l D cC cI H.size a0_11 a0_12 v0.2.1.2.2 o88 ho88) b_42 0 (hN _ n_4) (htB _ b_43) (htB _ b_44) (htB _ b_9) ⟨by decide, by decide, by decide +kernel⟩ ⟨(Nat.le_of_ble_eq_true rfl), (Nat.le_of_ble_eq_true rfl)⟩ 11 rfl rfl hP hD hS [11, 12] rfl (by decide) rfl rfl hl.1 rfl rfl (Nat.le_of_ble_eq_true rfl) d_Pattern_complete_88) hP hD hS hA [11, 12] [0, 1, 2, 3, 4, 5, 6, 7, 8, 9, 10] [0, 1, 2, 3, 4, 5, 6, 7, 8, 9, 10, 11, 12] rfl rfl (by decide) (by decide) rfl (by decide) (fun H locs hP hD hS => ?_)
  refine lv_aload_n hx hb d_Pattern_complete_91 rfl (lv_at hl 0 rfl) ?_
  refine va_get (D := D) (ci := 4) (v := .ref a0_7) (C := R_Pattern) (T := F_Pattern) (N := 4) hx hb htB in_Pattern hown hK hP 0 rfl rfl 1 (by decide) (htB _ b_41) (fun _ h9 => h9) rfl d_Pattern_complete_92 ?_
  refine va_getN (D := D) (ci := 3) (v := .ref a0_11) (C := R_Part) (T := F_Part) (N := 3) hx hb htB in_Part hown hK hP 7 rfl rfl 2 (by decide) (va_Nw.use rfl (hN _ n_7)) (fun _ h9 => h9) rfl d_Pattern_complete_95 ?_
  refine lv_aload_n hx hb d_Pattern_complete_98 rfl (lv_at hl 0 rfl) ?_
  refine va_get (D := D) (ci := 4) (v := .ref a0_1) (C := R_Pattern) (T := F_Pattern) (N := 4) hx hb htB in_Pattern hown hK hP 0 rfl rfl 0 (by decide) (htB _ b_35) (fun _ h9 => h9) rfl d_Pattern_complete_99 ?_
  refine va_getN (D := D) (ci := 3) (v := .ref a0_5) (C := R_Part) (T := F_Part) (N := 3) hx hb htB in_Part hown hK hP 1 rfl rfl 2 (by decide) (va_Nw.use rfl (hN _ n_7)) (fun _ h9 => h9) rfl d_Pattern_complete_102 ?_
  obtain ⟨o105, ho105, h⟩ := x_bnd h
  refine x_callv (ws2 := (wd_Pattern_complete cC cI a0_0 a0_1 a0_2 a0_3 a0_4 a0_5 a0_6 a0_7 a0_8 a0_9 a0_10 a0_11 a0_12 (v0.1, (o78, v0.2.1.2.1, o105), v0.2.2.1, s1))) (x_runVN (As := [.ref a0_5]) (rest := []) X (c_Affix_addAll l D cC cI H.size a0_11 a0_12 a0_5 a0_6 o88 v0.1.2.2 o105 ho105) b_45 1 (hN _ n_6) (htB _ b_46) (htB _ b_47) (htB _ b_9) ⟨by decide, by decide, by decide +kernel⟩ ⟨(Nat.le_of_ble_eq_true rfl), (Nat.le_of_ble_eq_true rfl)⟩ 11 rfl rfl hP hD hS [11, 12, 5, 6] rfl (by decide) rfl rfl hl.1 rfl rfl (Nat.le_of_ble_eq_true rfl) d_Pattern_complete_105) hP hD hS hA [11, 12, 5, 6] [0, 1, 2, 3, 4, 7, 8, 9, 10] [0, 1, 2, 3, 4, 11, 12, 5, 6, 7, 8, 9, 10] rfl rfl (by decide) (by decide) rfl (by decide) (fun H locs hP hD hS => ?_)
  exact w_Pattern_complete_108 X (v0.1, (o78, v0.2.1.2.1, o105), v0.2.2.1, s1) ls H locs h (lv_sub hl [] rfl) hP hD hS

def f_Pattern_complete_27 (v0 : T_Pattern) : Option O_Pattern_complete := f_Pattern_complete_32 v0 (1 : Int32)
set_option maxHeartbeats 4000000 in
set_option maxRecDepth 100000 in
theorem w_Pattern_complete_27 {p : Program} {l : Launch} {e : Env} {s : State} {m : MethodId} {args : Array Value} {below : List Frame} {meth : Method} {c : Code} {A : Nat → Prop} {D : va_G} {cC cI : ClassId} {a0_0 a0_1 a0_2 a0_3 a0_4 a0_5 a0_6 a0_7 a0_8 a0_9 a0_10 a0_11 a0_12 : Nat} (X : xCX p s m args meth c A D cC cI b_Pattern_complete 1 R_Pattern none) {out : O_Pattern_complete}   : J_Pattern_complete_27 p l e s m args below meth c A D cC cI a0_0 a0_1 a0_2 a0_3 a0_4 a0_5 a0_6 a0_7 a0_8 a0_9 a0_10 a0_11 a0_12 out (f_Pattern_complete_27  ) := by
  obtain ⟨hx, hb, hml, hown, htB, ⟨hK, hN⟩, hZ, hA, hr, hlocks⟩ := id X
  intro v0 ls H locs h hl hP hD hS
  refine lv_iconst (v := 1) hx hb d_Pattern_complete_27 (by decide) ?_
  refine lv_goto (tgt := 32) hx hb d_Pattern_complete_28 rfl ?_
  exact w_Pattern_complete_32 X v0 (1 : Int32) ls H locs h (lv_sub hl [0] rfl) hP hD hS

def f_Pattern_complete (v0 : T_Pattern) : Option O_Pattern_complete := (f_Affix_hasPercent v0.1.1).bind (fun o8 => (if o8 = 0 then (f_Affix_hasPercent v0.1.2.2).bind (fun o21 => (if o21 = 0 then f_Pattern_complete_32 v0 (0 : Int32) else f_Pattern_complete_27 v0)) else f_Pattern_complete_27 v0))
set_option maxHeartbeats 4000000 in
set_option maxRecDepth 100000 in
theorem w_Pattern_complete {p : Program} {l : Launch} {e : Env} {s : State} {m : MethodId} {args : Array Value} {below : List Frame} {meth : Method} {c : Code} {A : Nat → Prop} {D : va_G} {cC cI : ClassId} {a0_0 a0_1 a0_2 a0_3 a0_4 a0_5 a0_6 a0_7 a0_8 a0_9 a0_10 a0_11 a0_12 : Nat} (X : xCX p s m args meth c A D cC cI b_Pattern_complete 1 R_Pattern none) {out : O_Pattern_complete} (v0 : T_Pattern) {ls : Array Slot} {H : Heap} {locs : List Loc} (h : f_Pattern_complete v0 = some out) (hl : lv_has ls 1 [(0, .ref a0_0)]) (hP : va_P D classes (wd_Pattern_complete cC cI a0_0 a0_1 a0_2 a0_3 a0_4 a0_5 a0_6 a0_7 a0_8 a0_9 a0_10 a0_11 a0_12 v0) H) (hD : va_D A (wd_Pattern_complete cC cI a0_0 a0_1 a0_2 a0_3 a0_4 a0_5 a0_6 a0_7 a0_8 a0_9 a0_10 a0_11 a0_12 v0)) (hS : va_S A s.heap H locs) : W p l e rm_Pattern_complete s m args below meth c H locs 0 0 (MQ below (q_Pattern_complete D cC cI a0_0 a0_1 a0_2 a0_3 a0_4 a0_5 a0_6 a0_7 a0_8 a0_9 a0_10 a0_11 a0_12 out A) args s 0 0 A) (F0 m 0 ls []) := by
  obtain ⟨hx, hb, hml, hown, htB, ⟨hK, hN⟩, hZ, hA, hr, hlocks⟩ := id X
  refine lv_aload_n hx hb d_Pattern_complete_0 rfl (lv_at hl 0 rfl) ?_
  refine lv_aload_n hx hb d_Pattern_complete_1 rfl (lv_at hl 0 rfl) ?_
  refine va_get (D := D) (ci := 4) (v := .ref a0_1) (C := R_Pattern) (T := F_Pattern) (N := 4) hx hb htB in_Pattern hown hK hP 0 rfl rfl 0 (by decide) (htB _ b_35) (fun _ h9 => h9) rfl d_Pattern_complete_2 ?_
  refine va_getN (D := D) (ci := 3) (v := .ref a0_2) (C := R_Part) (T := F_Part) (N := 3) hx hb htB in_Part hown hK hP 1 rfl rfl 0 (by decide) (va_Nw.use rfl (hN _ n_2)) (fun _ h9 => h9) rfl d_Pattern_complete_5 ?_
  obtain ⟨o8, ho8, h⟩ := x_bnd h
  refine x_calli (r0 := o8) (ws2 := (wd_Pattern_complete cC cI a0_0 a0_1 a0_2 a0_3 a0_4 a0_5 a0_6 a0_7 a0_8 a0_9 a0_10 a0_11 a0_12 v0)) (x_runVN (As := []) (rest := [.ref a0_0]) X (c_Affix_hasPercent l D cC cI H.size a0_2 a0_3 v0.1.1 o8 ho8) b_36 0 (hN _ n_3) (htB _ b_37) (htB _ b_38) (htB _ b_9) ⟨by decide, by decide, by decide +kernel⟩ ⟨(Nat.le_of_ble_eq_true rfl), (Nat.le_of_ble_eq_true rfl)⟩ 2 rfl rfl hP hD hS [2, 3] rfl (by decide) rfl rfl hl.1 rfl rfl (Nat.le_of_ble_eq_true rfl) d_Pattern_complete_8) hP hD hS hA [2, 3] [0, 1, 4, 5, 6, 7, 8, 9, 10, 11, 12] [0, 1, 11, 12, 2, 3, 4, 5, 6, 7, 8, 9, 10] rfl rfl (by decide) (by decide) rfl (by decide) (fun H locs hP hD hS => ?_)
  refine lv_if_ne (tgt := 27) hx hb d_Pattern_complete_11 rfl (fun hc => ?_) (fun hc => ?_)
  · have h := (if_neg hc).symm.trans h
    exact w_Pattern_complete_27 X v0 ls H locs h (lv_sub hl [0] rfl) hP hD hS
  have h := (if_pos hc).symm.trans h
  refine lv_aload_n hx hb d_Pattern_complete_14 rfl (lv_at hl 0 rfl) ?_
  refine va_get (D := D) (ci := 4) (v := .ref a0_1) (C := R_Pattern) (T := F_Pattern) (N := 4) hx hb htB in_Pattern hown hK hP 0 rfl rfl 0 (by decide) (htB _ b_35) (fun _ h9 => h9) rfl d_Pattern_complete_15 ?_
  refine va_getN (D := D) (ci := 3) (v := .ref a0_5) (C := R_Part) (T := F_Part) (N := 3) hx hb htB in_Part hown hK hP 1 rfl rfl 2 (by decide) (va_Nw.use rfl (hN _ n_7)) (fun _ h9 => h9) rfl d_Pattern_complete_18 ?_
  obtain ⟨o21, ho21, h⟩ := x_bnd h
  refine x_calli (r0 := o21) (ws2 := (wd_Pattern_complete cC cI a0_0 a0_1 a0_2 a0_3 a0_4 a0_5 a0_6 a0_7 a0_8 a0_9 a0_10 a0_11 a0_12 v0)) (x_runVN (As := []) (rest := [.ref a0_0]) X (c_Affix_hasPercent l D cC cI H.size a0_5 a0_6 v0.1.2.2 o21 ho21) b_36 0 (hN _ n_3) (htB _ b_37) (htB _ b_38) (htB _ b_9) ⟨by decide, by decide, by decide +kernel⟩ ⟨(Nat.le_of_ble_eq_true rfl), (Nat.le_of_ble_eq_true rfl)⟩ 5 rfl rfl hP hD hS [5, 6] rfl (by decide) rfl rfl hl.1 rfl rfl (Nat.le_of_ble_eq_true rfl) d_Pattern_complete_21) hP hD hS hA [5, 6] [0, 1, 2, 3, 4, 7, 8, 9, 10, 11, 12] [0, 1, 2, 3, 4, 11, 12, 5, 6, 7, 8, 9, 10] rfl rfl (by decide) (by decide) rfl (by decide) (fun H locs hP hD hS => ?_)
  refine lv_if_eq (tgt := 31) hx hb d_Pattern_complete_24 rfl (fun hc => ?_) (fun hc => ?_)
  · have h := (if_pos hc).symm.trans h
    refine lv_iconst (v := 0) hx hb d_Pattern_complete_31 (by decide) ?_
    exact w_Pattern_complete_32 X v0 (0 : Int32) ls H locs h (lv_sub hl [0] rfl) hP hD hS
  have h := (if_neg hc).symm.trans h
  exact w_Pattern_complete_27 X v0 ls H locs h (lv_sub hl [0] rfl) hP hD hS

set_option maxHeartbeats 4000000 in
set_option maxRecDepth 100000 in
theorem c_Pattern_complete (l : Launch) (D : va_G) (cC cI : ClassId) (sz : Nat) (a0_0 a0_1 a0_2 a0_3 a0_4 a0_5 a0_6 a0_7 a0_8 a0_9 a0_10 a0_11 a0_12 : Nat) (v0 : T_Pattern) (out : O_Pattern_complete) (h : f_Pattern_complete v0 = some out) : Met l y_Pattern_complete (.code y_Pattern_complete b_Pattern_complete 1 none :: BIG) rm_Pattern_complete (va_Pc [.ref a0_0] (xPre D cC cI (wd_Pattern_complete cC cI a0_0 a0_1 a0_2 a0_3 a0_4 a0_5 a0_6 a0_7 a0_8 a0_9 a0_10 a0_11 a0_12 v0) sz)) (q_Pattern_complete D cC cI a0_0 a0_1 a0_2 a0_3 a0_4 a0_5 a0_6 a0_7 a0_8 a0_9 a0_10 a0_11 a0_12 out (va_A (wd_Pattern_complete cC cI a0_0 a0_1 a0_2 a0_3 a0_4 a0_5 a0_6 a0_7 a0_8 a0_9 a0_10 a0_11 a0_12 v0) sz)) 0 0 (va_A (wd_Pattern_complete cC cI a0_0 a0_1 a0_2 a0_3 a0_4 a0_5 a0_6 a0_7 a0_8 a0_9 a0_10 a0_11 a0_12 v0) sz) := by
  refine Met.ofW (cc := b_Pattern_complete) (maxL := 1) (ret := none) (by decide) rfl ?_
  intro p e s m args below meth c s₁ B hml hv
  obtain ⟨rfl, rfl, hP, hD0, hG, hZ⟩ := hv
  have hl := lv_entry [.ref a0_0] (n := 1) (Nat.le_of_ble_eq_true rfl)
  rw [lg_entry_eq]
  exact w_Pattern_complete (x_cx B hml hG hZ) v0 h hl hP hD0.self va_S.rf
end
