-- ===== PART A: goes FIRST, ahead of the names: the tables' words, and 'selects' of the private methods out of them =====
/-- a private method of a class that the tables say can be made, by its rows of tables_1 -/
def lw_okq (q : MethodName × Nat) : Prop := (q.1.cls ≠ "java/lang/invoke/MethodHandle" ∧ q.1.cls ≠ "java/lang/invoke/VarHandle") ∧ Cond.instantiable q.1.cls q.2 ∈ tables_1 ∧ Cond.privateMethod q.1 ∈ tables_1 ∧ Cond.instanceMethod q.1 ∈ tables_1
theorem lw_p0 : lw_okq (⟨"StairsNear$Ring", "listDegree", "(I)V"⟩, 7) := ⟨⟨by decide +kernel, by decide +kernel⟩, List.mem_of_getElem? (i := 24) (by decide +kernel), List.mem_of_getElem? (i := 54) (by decide +kernel), List.mem_of_getElem? (i := 55) (by decide +kernel)⟩
theorem lw_p1 : lw_okq (⟨"StairsNear$Ring", "linkProducts", "(I)V"⟩, 7) := ⟨⟨by decide +kernel, by decide +kernel⟩, List.mem_of_getElem? (i := 24) (by decide +kernel), List.mem_of_getElem? (i := 69) (by decide +kernel), List.mem_of_getElem? (i := 70) (by decide +kernel)⟩
theorem lw_p2 : lw_okq (⟨"StairsNear", "forgetWhatWasWorkedOut", "()V"⟩, 11) := ⟨⟨by decide +kernel, by decide +kernel⟩, List.mem_of_getElem? (i := 16) (by decide +kernel), List.mem_of_getElem? (i := 345) (by decide +kernel), List.mem_of_getElem? (i := 346) (by decide +kernel)⟩
theorem lw_p3 : lw_okq (⟨"StairsNear$Poly", "insert", "(III)V"⟩, 3) := ⟨⟨by decide +kernel, by decide +kernel⟩, List.mem_of_getElem? (i := 132) (by decide +kernel), List.mem_of_getElem? (i := 372) (by decide +kernel), List.mem_of_getElem? (i := 373) (by decide +kernel)⟩
theorem lw_p4 : lw_okq (⟨"StairsNear$Tape", "ahead", "()I"⟩, 8) := ⟨⟨by decide +kernel, by decide +kernel⟩, List.mem_of_getElem? (i := 162) (by decide +kernel), List.mem_of_getElem? (i := 404) (by decide +kernel), List.mem_of_getElem? (i := 405) (by decide +kernel)⟩
theorem lw_p5 : lw_okq (⟨"StairsNear$Tape", "readSummand", "(ZLStairsNear$Ring;)V"⟩, 8) := ⟨⟨by decide +kernel, by decide +kernel⟩, List.mem_of_getElem? (i := 162) (by decide +kernel), List.mem_of_getElem? (i := 408) (by decide +kernel), List.mem_of_getElem? (i := 409) (by decide +kernel)⟩
theorem lw_p6 : lw_okq (⟨"StairsNear$Tape", "factorIsAhead", "(LStairsNear$Ring;)Z"⟩, 8) := ⟨⟨by decide +kernel, by decide +kernel⟩, List.mem_of_getElem? (i := 162) (by decide +kernel), List.mem_of_getElem? (i := 415) (by decide +kernel), List.mem_of_getElem? (i := 416) (by decide +kernel)⟩
theorem lw_p7 : lw_okq (⟨"StairsNear$Tape", "blame", "(II)V"⟩, 8) := ⟨⟨by decide +kernel, by decide +kernel⟩, List.mem_of_getElem? (i := 162) (by decide +kernel), List.mem_of_getElem? (i := 425) (by decide +kernel), List.mem_of_getElem? (i := 426) (by decide +kernel)⟩
theorem lw_p8 : lw_okq (⟨"StairsNear$Tape", "readFactor", "(LStairsNear$Ring;)V"⟩, 8) := ⟨⟨by decide +kernel, by decide +kernel⟩, List.mem_of_getElem? (i := 162) (by decide +kernel), List.mem_of_getElem? (i := 429) (by decide +kernel), List.mem_of_getElem? (i := 430) (by decide +kernel)⟩
theorem lw_p9 : lw_okq (⟨"StairsNear$Tape", "readDigits", "(I)I"⟩, 8) := ⟨⟨by decide +kernel, by decide +kernel⟩, List.mem_of_getElem? (i := 162) (by decide +kernel), List.mem_of_getElem? (i := 433) (by decide +kernel), List.mem_of_getElem? (i := 434) (by decide +kernel)⟩
theorem lw_p10 : lw_okq (⟨"StairsNear$Tape", "readPower", "(I)V"⟩, 8) := ⟨⟨by decide +kernel, by decide +kernel⟩, List.mem_of_getElem? (i := 162) (by decide +kernel), List.mem_of_getElem? (i := 445) (by decide +kernel), List.mem_of_getElem? (i := 446) (by decide +kernel)⟩
theorem lw_p11 : lw_okq (⟨"StairsNear", "putSpare", "(I)I"⟩, 11) := ⟨⟨by decide +kernel, by decide +kernel⟩, List.mem_of_getElem? (i := 16) (by decide +kernel), List.mem_of_getElem? (i := 467) (by decide +kernel), List.mem_of_getElem? (i := 468) (by decide +kernel)⟩
theorem lw_p12 : lw_okq (⟨"StairsNear$Text", "put", "(I)V"⟩, 2) := ⟨⟨by decide +kernel, by decide +kernel⟩, List.mem_of_getElem? (i := 199) (by decide +kernel), List.mem_of_getElem? (i := 483) (by decide +kernel), List.mem_of_getElem? (i := 484) (by decide +kernel)⟩
theorem lw_p13 : lw_okq (⟨"StairsNear$Text", "putNumber", "(I)V"⟩, 2) := ⟨⟨by decide +kernel, by decide +kernel⟩, List.mem_of_getElem? (i := 199) (by decide +kernel), List.mem_of_getElem? (i := 488) (by decide +kernel), List.mem_of_getElem? (i := 489) (by decide +kernel)⟩
theorem lw_p14 : lw_okq (⟨"StairsNear$Text", "putPower", "(II)V"⟩, 2) := ⟨⟨by decide +kernel, by decide +kernel⟩, List.mem_of_getElem? (i := 199) (by decide +kernel), List.mem_of_getElem? (i := 493) (by decide +kernel), List.mem_of_getElem? (i := 494) (by decide +kernel)⟩
theorem lw_p15 : lw_okq (⟨"StairsNear", "multiply", "(LStairsNear$Poly;LStairsNear$Poly;)Z"⟩, 11) := ⟨⟨by decide +kernel, by decide +kernel⟩, List.mem_of_getElem? (i := 16) (by decide +kernel), List.mem_of_getElem? (i := 549) (by decide +kernel), List.mem_of_getElem? (i := 550) (by decide +kernel)⟩
def lw_privs_1 : List (MethodName × Nat) := [(⟨"StairsNear$Ring", "listDegree", "(I)V"⟩, 7), (⟨"StairsNear$Ring", "linkProducts", "(I)V"⟩, 7), (⟨"StairsNear", "forgetWhatWasWorkedOut", "()V"⟩, 11), (⟨"StairsNear$Poly", "insert", "(III)V"⟩, 3), (⟨"StairsNear$Tape", "ahead", "()I"⟩, 8), (⟨"StairsNear$Tape", "readSummand", "(ZLStairsNear$Ring;)V"⟩, 8), (⟨"StairsNear$Tape", "factorIsAhead", "(LStairsNear$Ring;)Z"⟩, 8), (⟨"StairsNear$Tape", "blame", "(II)V"⟩, 8), (⟨"StairsNear$Tape", "readFactor", "(LStairsNear$Ring;)V"⟩, 8), (⟨"StairsNear$Tape", "readDigits", "(I)I"⟩, 8), (⟨"StairsNear$Tape", "readPower", "(I)V"⟩, 8), (⟨"StairsNear", "putSpare", "(I)I"⟩, 11), (⟨"StairsNear$Text", "put", "(I)V"⟩, 2), (⟨"StairsNear$Text", "putNumber", "(I)V"⟩, 2), (⟨"StairsNear$Text", "putPower", "(II)V"⟩, 2), (⟨"StairsNear", "multiply", "(LStairsNear$Poly;LStairsNear$Poly;)Z"⟩, 11)]
theorem lw_r1 : ∀ q ∈ lw_privs_1, lw_okq q := List.forall_mem_cons.mpr ⟨lw_p0, List.forall_mem_cons.mpr ⟨lw_p1, List.forall_mem_cons.mpr ⟨lw_p2, List.forall_mem_cons.mpr ⟨lw_p3, List.forall_mem_cons.mpr ⟨lw_p4, List.forall_mem_cons.mpr ⟨lw_p5, List.forall_mem_cons.mpr ⟨lw_p6, List.forall_mem_cons.mpr ⟨lw_p7, List.forall_mem_cons.mpr ⟨lw_p8, List.forall_mem_cons.mpr ⟨lw_p9, List.forall_mem_cons.mpr ⟨lw_p10, List.forall_mem_cons.mpr ⟨lw_p11, List.forall_mem_cons.mpr ⟨lw_p12, List.forall_mem_cons.mpr ⟨lw_p13, List.forall_mem_cons.mpr ⟨lw_p14, List.forall_mem_cons.mpr ⟨lw_p15, fun _ h => absurd h List.not_mem_nil⟩⟩⟩⟩⟩⟩⟩⟩⟩⟩⟩⟩⟩⟩⟩⟩
theorem lw_p16 : lw_okq (⟨"StairsNear", "held", "(I)I"⟩, 11) := ⟨⟨by decide +kernel, by decide +kernel⟩, List.mem_of_getElem? (i := 16) (by decide +kernel), List.mem_of_getElem? (i := 577) (by decide +kernel), List.mem_of_getElem? (i := 578) (by decide +kernel)⟩
theorem lw_p17 : lw_okq (⟨"StairsNear$Division", "begin", "([LStairsNear$Poly;IILStairsNear$Numbers;)V"⟩, 9) := ⟨⟨by decide +kernel, by decide +kernel⟩, List.mem_of_getElem? (i := 214) (by decide +kernel), List.mem_of_getElem? (i := 585) (by decide +kernel), List.mem_of_getElem? (i := 586) (by decide +kernel)⟩
theorem lw_p18 : lw_okq (⟨"StairsNear$Division", "bestDivisor", "()I"⟩, 9) := ⟨⟨by decide +kernel, by decide +kernel⟩, List.mem_of_getElem? (i := 214) (by decide +kernel), List.mem_of_getElem? (i := 601) (by decide +kernel), List.mem_of_getElem? (i := 602) (by decide +kernel)⟩
theorem lw_p19 : lw_okq (⟨"StairsNear$Division", "stepBy", "(ILStairsNear$Numbers;)Z"⟩, 9) := ⟨⟨by decide +kernel, by decide +kernel⟩, List.mem_of_getElem? (i := 214) (by decide +kernel), List.mem_of_getElem? (i := 610) (by decide +kernel), List.mem_of_getElem? (i := 611) (by decide +kernel)⟩
theorem lw_p20 : lw_okq (⟨"StairsNear$Division", "subtract", "(LStairsNear$Equation;LStairsNear$Numbers;)Z"⟩, 9) := ⟨⟨by decide +kernel, by decide +kernel⟩, List.mem_of_getElem? (i := 214) (by decide +kernel), List.mem_of_getElem? (i := 619) (by decide +kernel), List.mem_of_getElem? (i := 620) (by decide +kernel)⟩
theorem lw_p21 : lw_okq (⟨"StairsNear", "isBound", "(I)Z"⟩, 11) := ⟨⟨by decide +kernel, by decide +kernel⟩, List.mem_of_getElem? (i := 16) (by decide +kernel), List.mem_of_getElem? (i := 659) (by decide +kernel), List.mem_of_getElem? (i := 660) (by decide +kernel)⟩
theorem lw_p22 : lw_okq (⟨"StairsNear", "idealOf", "(I)LStairsNear$Ideal;"⟩, 11) := ⟨⟨by decide +kernel, by decide +kernel⟩, List.mem_of_getElem? (i := 16) (by decide +kernel), List.mem_of_getElem? (i := 664) (by decide +kernel), List.mem_of_getElem? (i := 665) (by decide +kernel)⟩
theorem lw_p23 : lw_okq (⟨"StairsNear", "oldestIdeal", "()LStairsNear$Ideal;"⟩, 11) := ⟨⟨by decide +kernel, by decide +kernel⟩, List.mem_of_getElem? (i := 16) (by decide +kernel), List.mem_of_getElem? (i := 668) (by decide +kernel), List.mem_of_getElem? (i := 669) (by decide +kernel)⟩
theorem lw_p24 : lw_okq (⟨"StairsNear$Ideal", "load", "(LStairsNear$Poly;LStairsNear$Ring;)V"⟩, 4) := ⟨⟨by decide +kernel, by decide +kernel⟩, List.mem_of_getElem? (i := 276) (by decide +kernel), List.mem_of_getElem? (i := 679) (by decide +kernel), List.mem_of_getElem? (i := 680) (by decide +kernel)⟩
theorem lw_p25 : lw_okq (⟨"StairsNear$Ideal", "insertLine", "(ILStairsNear$Numbers;)V"⟩, 4) := ⟨⟨by decide +kernel, by decide +kernel⟩, List.mem_of_getElem? (i := 276) (by decide +kernel), List.mem_of_getElem? (i := 684) (by decide +kernel), List.mem_of_getElem? (i := 685) (by decide +kernel)⟩
theorem lw_p26 : lw_okq (⟨"StairsNear$Ideal", "storeRow", "(IILStairsNear$Numbers;)V"⟩, 4) := ⟨⟨by decide +kernel, by decide +kernel⟩, List.mem_of_getElem? (i := 276) (by decide +kernel), List.mem_of_getElem? (i := 688) (by decide +kernel), List.mem_of_getElem? (i := 689) (by decide +kernel)⟩
theorem lw_p27 : lw_okq (⟨"StairsNear$Ideal", "subtractRow", "(IILStairsNear$Numbers;)V"⟩, 4) := ⟨⟨by decide +kernel, by decide +kernel⟩, List.mem_of_getElem? (i := 276) (by decide +kernel), List.mem_of_getElem? (i := 694) (by decide +kernel), List.mem_of_getElem? (i := 695) (by decide +kernel)⟩
theorem lw_p28 : lw_okq (⟨"StairsNear$Ideal", "loadProduct", "([I[II)V"⟩, 4) := ⟨⟨by decide +kernel, by decide +kernel⟩, List.mem_of_getElem? (i := 276) (by decide +kernel), List.mem_of_getElem? (i := 700) (by decide +kernel), List.mem_of_getElem? (i := 701) (by decide +kernel)⟩
theorem lw_p29 : lw_okq (⟨"StairsNear$Ideal", "markNoCorner", "(I)V"⟩, 4) := ⟨⟨by decide +kernel, by decide +kernel⟩, List.mem_of_getElem? (i := 276) (by decide +kernel), List.mem_of_getElem? (i := 704) (by decide +kernel), List.mem_of_getElem? (i := 705) (by decide +kernel)⟩
theorem lw_p30 : lw_okq (⟨"StairsNear$Ideal", "isOf", "(II)Z"⟩, 4) := ⟨⟨by decide +kernel, by decide +kernel⟩, List.mem_of_getElem? (i := 276) (by decide +kernel), List.mem_of_getElem? (i := 713) (by decide +kernel), List.mem_of_getElem? (i := 714) (by decide +kernel)⟩
theorem lw_p31 : lw_okq (⟨"StairsNear", "tellOfKind", "(IIIII)I"⟩, 11) := ⟨⟨by decide +kernel, by decide +kernel⟩, List.mem_of_getElem? (i := 16) (by decide +kernel), List.mem_of_getElem? (i := 721) (by decide +kernel), List.mem_of_getElem? (i := 722) (by decide +kernel)⟩
def lw_privs_2 : List (MethodName × Nat) := [(⟨"StairsNear", "held", "(I)I"⟩, 11), (⟨"StairsNear$Division", "begin", "([LStairsNear$Poly;IILStairsNear$Numbers;)V"⟩, 9), (⟨"StairsNear$Division", "bestDivisor", "()I"⟩, 9), (⟨"StairsNear$Division", "stepBy", "(ILStairsNear$Numbers;)Z"⟩, 9), (⟨"StairsNear$Division", "subtract", "(LStairsNear$Equation;LStairsNear$Numbers;)Z"⟩, 9), (⟨"StairsNear", "isBound", "(I)Z"⟩, 11), (⟨"StairsNear", "idealOf", "(I)LStairsNear$Ideal;"⟩, 11), (⟨"StairsNear", "oldestIdeal", "()LStairsNear$Ideal;"⟩, 11), (⟨"StairsNear$Ideal", "load", "(LStairsNear$Poly;LStairsNear$Ring;)V"⟩, 4), (⟨"StairsNear$Ideal", "insertLine", "(ILStairsNear$Numbers;)V"⟩, 4), (⟨"StairsNear$Ideal", "storeRow", "(IILStairsNear$Numbers;)V"⟩, 4), (⟨"StairsNear$Ideal", "subtractRow", "(IILStairsNear$Numbers;)V"⟩, 4), (⟨"StairsNear$Ideal", "loadProduct", "([I[II)V"⟩, 4), (⟨"StairsNear$Ideal", "markNoCorner", "(I)V"⟩, 4), (⟨"StairsNear$Ideal", "isOf", "(II)Z"⟩, 4), (⟨"StairsNear", "tellOfKind", "(IIIII)I"⟩, 11)]
theorem lw_r2 : ∀ q ∈ lw_privs_2, lw_okq q := List.forall_mem_cons.mpr ⟨lw_p16, List.forall_mem_cons.mpr ⟨lw_p17, List.forall_mem_cons.mpr ⟨lw_p18, List.forall_mem_cons.mpr ⟨lw_p19, List.forall_mem_cons.mpr ⟨lw_p20, List.forall_mem_cons.mpr ⟨lw_p21, List.forall_mem_cons.mpr ⟨lw_p22, List.forall_mem_cons.mpr ⟨lw_p23, List.forall_mem_cons.mpr ⟨lw_p24, List.forall_mem_cons.mpr ⟨lw_p25, List.forall_mem_cons.mpr ⟨lw_p26, List.forall_mem_cons.mpr ⟨lw_p27, List.forall_mem_cons.mpr ⟨lw_p28, List.forall_mem_cons.mpr ⟨lw_p29, List.forall_mem_cons.mpr ⟨lw_p30, List.forall_mem_cons.mpr ⟨lw_p31, fun _ h => absurd h List.not_mem_nil⟩⟩⟩⟩⟩⟩⟩⟩⟩⟩⟩⟩⟩⟩⟩⟩
theorem lw_p32 : lw_okq (⟨"StairsNearModel", "isIn", "(JJJ)Z"⟩, 32) := ⟨⟨by decide +kernel, by decide +kernel⟩, List.mem_of_getElem? (i := 779) (by decide +kernel), List.mem_of_getElem? (i := 890) (by decide +kernel), List.mem_of_getElem? (i := 891) (by decide +kernel)⟩
theorem lw_p33 : lw_okq (⟨"StairsNearModel", "isPrime", "(I)Z"⟩, 32) := ⟨⟨by decide +kernel, by decide +kernel⟩, List.mem_of_getElem? (i := 779) (by decide +kernel), List.mem_of_getElem? (i := 896) (by decide +kernel), List.mem_of_getElem? (i := 897) (by decide +kernel)⟩
theorem lw_p34 : lw_okq (⟨"StairsNearModel", "sorts", "(I)V"⟩, 32) := ⟨⟨by decide +kernel, by decide +kernel⟩, List.mem_of_getElem? (i := 779) (by decide +kernel), List.mem_of_getElem? (i := 905) (by decide +kernel), List.mem_of_getElem? (i := 906) (by decide +kernel)⟩
theorem lw_p35 : lw_okq (⟨"StairsNearModel", "heapsRow", "(IIIII)V"⟩, 32) := ⟨⟨by decide +kernel, by decide +kernel⟩, List.mem_of_getElem? (i := 779) (by decide +kernel), List.mem_of_getElem? (i := 909) (by decide +kernel), List.mem_of_getElem? (i := 910) (by decide +kernel)⟩
theorem lw_p36 : lw_okq (⟨"StairsNearModel", "at", "(II)I"⟩, 32) := ⟨⟨by decide +kernel, by decide +kernel⟩, List.mem_of_getElem? (i := 779) (by decide +kernel), List.mem_of_getElem? (i := 913) (by decide +kernel), List.mem_of_getElem? (i := 914) (by decide +kernel)⟩
theorem lw_p37 : lw_okq (⟨"StairsNearModel", "power", "(III)I"⟩, 32) := ⟨⟨by decide +kernel, by decide +kernel⟩, List.mem_of_getElem? (i := 779) (by decide +kernel), List.mem_of_getElem? (i := 917) (by decide +kernel), List.mem_of_getElem? (i := 918) (by decide +kernel)⟩
theorem lw_p38 : lw_okq (⟨"StairsNearModel", "heaps", "(IIII)V"⟩, 32) := ⟨⟨by decide +kernel, by decide +kernel⟩, List.mem_of_getElem? (i := 779) (by decide +kernel), List.mem_of_getElem? (i := 921) (by decide +kernel), List.mem_of_getElem? (i := 922) (by decide +kernel)⟩
theorem lw_p39 : lw_okq (⟨"StairsNearModel", "heapCompares", "(IIII)I"⟩, 32) := ⟨⟨by decide +kernel, by decide +kernel⟩, List.mem_of_getElem? (i := 779) (by decide +kernel), List.mem_of_getElem? (i := 925) (by decide +kernel), List.mem_of_getElem? (i := 926) (by decide +kernel)⟩
theorem lw_p40 : lw_okq (⟨"StairsNearModel", "compares", "(IIIIII)I"⟩, 32) := ⟨⟨by decide +kernel, by decide +kernel⟩, List.mem_of_getElem? (i := 779) (by decide +kernel), List.mem_of_getElem? (i := 929) (by decide +kernel), List.mem_of_getElem? (i := 930) (by decide +kernel)⟩
theorem lw_p41 : lw_okq (⟨"StairsNearModel", "degreeOf", "(III)I"⟩, 32) := ⟨⟨by decide +kernel, by decide +kernel⟩, List.mem_of_getElem? (i := 779) (by decide +kernel), List.mem_of_getElem? (i := 933) (by decide +kernel), List.mem_of_getElem? (i := 934) (by decide +kernel)⟩
theorem lw_p42 : lw_okq (⟨"StairsNearModel", "takes", "(I)Z"⟩, 32) := ⟨⟨by decide +kernel, by decide +kernel⟩, List.mem_of_getElem? (i := 779) (by decide +kernel), List.mem_of_getElem? (i := 937) (by decide +kernel), List.mem_of_getElem? (i := 938) (by decide +kernel)⟩
theorem lw_p43 : lw_okq (⟨"StairsNearModel", "isSlot", "(I)Z"⟩, 32) := ⟨⟨by decide +kernel, by decide +kernel⟩, List.mem_of_getElem? (i := 779) (by decide +kernel), List.mem_of_getElem? (i := 945) (by decide +kernel), List.mem_of_getElem? (i := 946) (by decide +kernel)⟩
theorem lw_p44 : lw_okq (⟨"StairsNearModel", "skips", "()V"⟩, 32) := ⟨⟨by decide +kernel, by decide +kernel⟩, List.mem_of_getElem? (i := 779) (by decide +kernel), List.mem_of_getElem? (i := 950) (by decide +kernel), List.mem_of_getElem? (i := 951) (by decide +kernel)⟩
theorem lw_p45 : lw_okq (⟨"StairsNearModel", "see", "(I)I"⟩, 32) := ⟨⟨by decide +kernel, by decide +kernel⟩, List.mem_of_getElem? (i := 779) (by decide +kernel), List.mem_of_getElem? (i := 954) (by decide +kernel), List.mem_of_getElem? (i := 955) (by decide +kernel)⟩
theorem lw_p46 : lw_okq (⟨"StairsNearModel", "passes", "(I)Z"⟩, 32) := ⟨⟨by decide +kernel, by decide +kernel⟩, List.mem_of_getElem? (i := 779) (by decide +kernel), List.mem_of_getElem? (i := 958) (by decide +kernel), List.mem_of_getElem? (i := 959) (by decide +kernel)⟩
theorem lw_p47 : lw_okq (⟨"StairsNearModel", "readsTerm", "(Z)V"⟩, 32) := ⟨⟨by decide +kernel, by decide +kernel⟩, List.mem_of_getElem? (i := 779) (by decide +kernel), List.mem_of_getElem? (i := 962) (by decide +kernel), List.mem_of_getElem? (i := 963) (by decide +kernel)⟩
def lw_privs_3 : List (MethodName × Nat) := [(⟨"StairsNearModel", "isIn", "(JJJ)Z"⟩, 32), (⟨"StairsNearModel", "isPrime", "(I)Z"⟩, 32), (⟨"StairsNearModel", "sorts", "(I)V"⟩, 32), (⟨"StairsNearModel", "heapsRow", "(IIIII)V"⟩, 32), (⟨"StairsNearModel", "at", "(II)I"⟩, 32), (⟨"StairsNearModel", "power", "(III)I"⟩, 32), (⟨"StairsNearModel", "heaps", "(IIII)V"⟩, 32), (⟨"StairsNearModel", "heapCompares", "(IIII)I"⟩, 32), (⟨"StairsNearModel", "compares", "(IIIIII)I"⟩, 32), (⟨"StairsNearModel", "degreeOf", "(III)I"⟩, 32), (⟨"StairsNearModel", "takes", "(I)Z"⟩, 32), (⟨"StairsNearModel", "isSlot", "(I)Z"⟩, 32), (⟨"StairsNearModel", "skips", "()V"⟩, 32), (⟨"StairsNearModel", "see", "(I)I"⟩, 32), (⟨"StairsNearModel", "passes", "(I)Z"⟩, 32), (⟨"StairsNearModel", "readsTerm", "(Z)V"⟩, 32)]
theorem lw_r3 : ∀ q ∈ lw_privs_3, lw_okq q := List.forall_mem_cons.mpr ⟨lw_p32, List.forall_mem_cons.mpr ⟨lw_p33, List.forall_mem_cons.mpr ⟨lw_p34, List.forall_mem_cons.mpr ⟨lw_p35, List.forall_mem_cons.mpr ⟨lw_p36, List.forall_mem_cons.mpr ⟨lw_p37, List.forall_mem_cons.mpr ⟨lw_p38, List.forall_mem_cons.mpr ⟨lw_p39, List.forall_mem_cons.mpr ⟨lw_p40, List.forall_mem_cons.mpr ⟨lw_p41, List.forall_mem_cons.mpr ⟨lw_p42, List.forall_mem_cons.mpr ⟨lw_p43, List.forall_mem_cons.mpr ⟨lw_p44, List.forall_mem_cons.mpr ⟨lw_p45, List.forall_mem_cons.mpr ⟨lw_p46, List.forall_mem_cons.mpr ⟨lw_p47, fun _ h => absurd h List.not_mem_nil⟩⟩⟩⟩⟩⟩⟩⟩⟩⟩⟩⟩⟩⟩⟩⟩
theorem lw_p48 : lw_okq (⟨"StairsNearModel", "isFactor", "()Z"⟩, 32) := ⟨⟨by decide +kernel, by decide +kernel⟩, List.mem_of_getElem? (i := 779) (by decide +kernel), List.mem_of_getElem? (i := 966) (by decide +kernel), List.mem_of_getElem? (i := 967) (by decide +kernel)⟩
theorem lw_p49 : lw_okq (⟨"StairsNearModel", "isDigit", "(I)Z"⟩, 32) := ⟨⟨by decide +kernel, by decide +kernel⟩, List.mem_of_getElem? (i := 779) (by decide +kernel), List.mem_of_getElem? (i := 970) (by decide +kernel), List.mem_of_getElem? (i := 971) (by decide +kernel)⟩
theorem lw_p50 : lw_okq (⟨"StairsNearModel", "variableHere", "()I"⟩, 32) := ⟨⟨by decide +kernel, by decide +kernel⟩, List.mem_of_getElem? (i := 779) (by decide +kernel), List.mem_of_getElem? (i := 976) (by decide +kernel), List.mem_of_getElem? (i := 977) (by decide +kernel)⟩
theorem lw_p51 : lw_okq (⟨"StairsNearModel", "faultyAt", "(II)V"⟩, 32) := ⟨⟨by decide +kernel, by decide +kernel⟩, List.mem_of_getElem? (i := 779) (by decide +kernel), List.mem_of_getElem? (i := 980) (by decide +kernel), List.mem_of_getElem? (i := 981) (by decide +kernel)⟩
theorem lw_p52 : lw_okq (⟨"StairsNearModel", "readsFactor", "()V"⟩, 32) := ⟨⟨by decide +kernel, by decide +kernel⟩, List.mem_of_getElem? (i := 779) (by decide +kernel), List.mem_of_getElem? (i := 984) (by decide +kernel), List.mem_of_getElem? (i := 985) (by decide +kernel)⟩
theorem lw_p53 : lw_okq (⟨"StairsNearModel", "reads", "(I)I"⟩, 32) := ⟨⟨by decide +kernel, by decide +kernel⟩, List.mem_of_getElem? (i := 779) (by decide +kernel), List.mem_of_getElem? (i := 988) (by decide +kernel), List.mem_of_getElem? (i := 989) (by decide +kernel)⟩
theorem lw_p54 : lw_okq (⟨"StairsNearModel", "modulo", "(J)I"⟩, 32) := ⟨⟨by decide +kernel, by decide +kernel⟩, List.mem_of_getElem? (i := 779) (by decide +kernel), List.mem_of_getElem? (i := 992) (by decide +kernel), List.mem_of_getElem? (i := 993) (by decide +kernel)⟩
theorem lw_p55 : lw_okq (⟨"StairsNearModel", "copies", "(II)V"⟩, 32) := ⟨⟨by decide +kernel, by decide +kernel⟩, List.mem_of_getElem? (i := 779) (by decide +kernel), List.mem_of_getElem? (i := 996) (by decide +kernel), List.mem_of_getElem? (i := 997) (by decide +kernel)⟩
theorem lw_p56 : lw_okq (⟨"StairsNearModel", "says", "(I)V"⟩, 32) := ⟨⟨by decide +kernel, by decide +kernel⟩, List.mem_of_getElem? (i := 779) (by decide +kernel), List.mem_of_getElem? (i := 1016) (by decide +kernel), List.mem_of_getElem? (i := 1017) (by decide +kernel)⟩
theorem lw_p57 : lw_okq (⟨"StairsNearModel", "saysTerm", "(II)V"⟩, 32) := ⟨⟨by decide +kernel, by decide +kernel⟩, List.mem_of_getElem? (i := 779) (by decide +kernel), List.mem_of_getElem? (i := 1020) (by decide +kernel), List.mem_of_getElem? (i := 1021) (by decide +kernel)⟩
theorem lw_p58 : lw_okq (⟨"StairsNearModel", "degree", "(II)I"⟩, 32) := ⟨⟨by decide +kernel, by decide +kernel⟩, List.mem_of_getElem? (i := 779) (by decide +kernel), List.mem_of_getElem? (i := 1024) (by decide +kernel), List.mem_of_getElem? (i := 1025) (by decide +kernel)⟩
theorem lw_p59 : lw_okq (⟨"StairsNearModel", "saysNumber", "(I)V"⟩, 32) := ⟨⟨by decide +kernel, by decide +kernel⟩, List.mem_of_getElem? (i := 779) (by decide +kernel), List.mem_of_getElem? (i := 1028) (by decide +kernel), List.mem_of_getElem? (i := 1029) (by decide +kernel)⟩
theorem lw_p60 : lw_okq (⟨"StairsNearModel", "low", "(I)I"⟩, 32) := ⟨⟨by decide +kernel, by decide +kernel⟩, List.mem_of_getElem? (i := 779) (by decide +kernel), List.mem_of_getElem? (i := 1044) (by decide +kernel), List.mem_of_getElem? (i := 1045) (by decide +kernel)⟩
theorem lw_p61 : lw_okq (⟨"StairsNearModel", "high", "(I)I"⟩, 32) := ⟨⟨by decide +kernel, by decide +kernel⟩, List.mem_of_getElem? (i := 779) (by decide +kernel), List.mem_of_getElem? (i := 1048) (by decide +kernel), List.mem_of_getElem? (i := 1049) (by decide +kernel)⟩
theorem lw_p62 : lw_okq (⟨"StairsNearModel", "ecart", "(I)I"⟩, 32) := ⟨⟨by decide +kernel, by decide +kernel⟩, List.mem_of_getElem? (i := 779) (by decide +kernel), List.mem_of_getElem? (i := 1052) (by decide +kernel), List.mem_of_getElem? (i := 1053) (by decide +kernel)⟩
theorem lw_p63 : lw_okq (⟨"StairsNearModel", "isUnit", "(I)Z"⟩, 32) := ⟨⟨by decide +kernel, by decide +kernel⟩, List.mem_of_getElem? (i := 779) (by decide +kernel), List.mem_of_getElem? (i := 1056) (by decide +kernel), List.mem_of_getElem? (i := 1057) (by decide +kernel)⟩
def lw_privs_4 : List (MethodName × Nat) := [(⟨"StairsNearModel", "isFactor", "()Z"⟩, 32), (⟨"StairsNearModel", "isDigit", "(I)Z"⟩, 32), (⟨"StairsNearModel", "variableHere", "()I"⟩, 32), (⟨"StairsNearModel", "faultyAt", "(II)V"⟩, 32), (⟨"StairsNearModel", "readsFactor", "()V"⟩, 32), (⟨"StairsNearModel", "reads", "(I)I"⟩, 32), (⟨"StairsNearModel", "modulo", "(J)I"⟩, 32), (⟨"StairsNearModel", "copies", "(II)V"⟩, 32), (⟨"StairsNearModel", "says", "(I)V"⟩, 32), (⟨"StairsNearModel", "saysTerm", "(II)V"⟩, 32), (⟨"StairsNearModel", "degree", "(II)I"⟩, 32), (⟨"StairsNearModel", "saysNumber", "(I)V"⟩, 32), (⟨"StairsNearModel", "low", "(I)I"⟩, 32), (⟨"StairsNearModel", "high", "(I)I"⟩, 32), (⟨"StairsNearModel", "ecart", "(I)I"⟩, 32), (⟨"StairsNearModel", "isUnit", "(I)Z"⟩, 32)]
theorem lw_r4 : ∀ q ∈ lw_privs_4, lw_okq q := List.forall_mem_cons.mpr ⟨lw_p48, List.forall_mem_cons.mpr ⟨lw_p49, List.forall_mem_cons.mpr ⟨lw_p50, List.forall_mem_cons.mpr ⟨lw_p51, List.forall_mem_cons.mpr ⟨lw_p52, List.forall_mem_cons.mpr ⟨lw_p53, List.forall_mem_cons.mpr ⟨lw_p54, List.forall_mem_cons.mpr ⟨lw_p55, List.forall_mem_cons.mpr ⟨lw_p56, List.forall_mem_cons.mpr ⟨lw_p57, List.forall_mem_cons.mpr ⟨lw_p58, List.forall_mem_cons.mpr ⟨lw_p59, List.forall_mem_cons.mpr ⟨lw_p60, List.forall_mem_cons.mpr ⟨lw_p61, List.forall_mem_cons.mpr ⟨lw_p62, List.forall_mem_cons.mpr ⟨lw_p63, fun _ h => absurd h List.not_mem_nil⟩⟩⟩⟩⟩⟩⟩⟩⟩⟩⟩⟩⟩⟩⟩⟩
theorem lw_p64 : lw_okq (⟨"StairsNearModel", "multiplies", "(II)V"⟩, 32) := ⟨⟨by decide +kernel, by decide +kernel⟩, List.mem_of_getElem? (i := 779) (by decide +kernel), List.mem_of_getElem? (i := 1064) (by decide +kernel), List.mem_of_getElem? (i := 1065) (by decide +kernel)⟩
theorem lw_p65 : lw_okq (⟨"StairsNearModel", "heapsLow", "(I)V"⟩, 32) := ⟨⟨by decide +kernel, by decide +kernel⟩, List.mem_of_getElem? (i := 779) (by decide +kernel), List.mem_of_getElem? (i := 1072) (by decide +kernel), List.mem_of_getElem? (i := 1073) (by decide +kernel)⟩
theorem lw_p66 : lw_okq (⟨"StairsNearModel", "heapsPart", "(II)V"⟩, 32) := ⟨⟨by decide +kernel, by decide +kernel⟩, List.mem_of_getElem? (i := 779) (by decide +kernel), List.mem_of_getElem? (i := 1076) (by decide +kernel), List.mem_of_getElem? (i := 1077) (by decide +kernel)⟩
theorem lw_p67 : lw_okq (⟨"StairsNearModel", "begins", "(II)V"⟩, 32) := ⟨⟨by decide +kernel, by decide +kernel⟩, List.mem_of_getElem? (i := 779) (by decide +kernel), List.mem_of_getElem? (i := 1085) (by decide +kernel), List.mem_of_getElem? (i := 1086) (by decide +kernel)⟩
theorem lw_p68 : lw_okq (⟨"StairsNearModel", "has", "(II)Z"⟩, 32) := ⟨⟨by decide +kernel, by decide +kernel⟩, List.mem_of_getElem? (i := 779) (by decide +kernel), List.mem_of_getElem? (i := 1089) (by decide +kernel), List.mem_of_getElem? (i := 1090) (by decide +kernel)⟩
theorem lw_p69 : lw_okq (⟨"StairsNearModel", "rowOf", "(II)I"⟩, 32) := ⟨⟨by decide +kernel, by decide +kernel⟩, List.mem_of_getElem? (i := 779) (by decide +kernel), List.mem_of_getElem? (i := 1093) (by decide +kernel), List.mem_of_getElem? (i := 1094) (by decide +kernel)⟩
theorem lw_p70 : lw_okq (⟨"StairsNearModel", "dividing", "(I)I"⟩, 32) := ⟨⟨by decide +kernel, by decide +kernel⟩, List.mem_of_getElem? (i := 779) (by decide +kernel), List.mem_of_getElem? (i := 1097) (by decide +kernel), List.mem_of_getElem? (i := 1098) (by decide +kernel)⟩
theorem lw_p71 : lw_okq (⟨"StairsNearModel", "divides", "(II)Z"⟩, 32) := ⟨⟨by decide +kernel, by decide +kernel⟩, List.mem_of_getElem? (i := 779) (by decide +kernel), List.mem_of_getElem? (i := 1101) (by decide +kernel), List.mem_of_getElem? (i := 1102) (by decide +kernel)⟩
theorem lw_p72 : lw_okq (⟨"StairsNearModel", "steps", "(I)Z"⟩, 32) := ⟨⟨by decide +kernel, by decide +kernel⟩, List.mem_of_getElem? (i := 779) (by decide +kernel), List.mem_of_getElem? (i := 1105) (by decide +kernel), List.mem_of_getElem? (i := 1106) (by decide +kernel)⟩
theorem lw_p73 : lw_okq (⟨"StairsNearModel", "turned", "(I)I"⟩, 32) := ⟨⟨by decide +kernel, by decide +kernel⟩, List.mem_of_getElem? (i := 779) (by decide +kernel), List.mem_of_getElem? (i := 1109) (by decide +kernel), List.mem_of_getElem? (i := 1110) (by decide +kernel)⟩
theorem lw_p74 : lw_okq (⟨"StairsNearModel", "lessens", "(IIIII)Z"⟩, 32) := ⟨⟨by decide +kernel, by decide +kernel⟩, List.mem_of_getElem? (i := 779) (by decide +kernel), List.mem_of_getElem? (i := 1113) (by decide +kernel), List.mem_of_getElem? (i := 1114) (by decide +kernel)⟩
theorem lw_p75 : lw_okq (⟨"StairsNearModel", "grows", "(III)Z"⟩, 32) := ⟨⟨by decide +kernel, by decide +kernel⟩, List.mem_of_getElem? (i := 779) (by decide +kernel), List.mem_of_getElem? (i := 1117) (by decide +kernel), List.mem_of_getElem? (i := 1118) (by decide +kernel)⟩
theorem lw_p76 : lw_okq (⟨"StairsNearModel", "carries", "(III)Z"⟩, 32) := ⟨⟨by decide +kernel, by decide +kernel⟩, List.mem_of_getElem? (i := 779) (by decide +kernel), List.mem_of_getElem? (i := 1121) (by decide +kernel), List.mem_of_getElem? (i := 1122) (by decide +kernel)⟩
theorem lw_p77 : lw_okq (⟨"StairsNearModel", "aheadOf", "(I)I"⟩, 32) := ⟨⟨by decide +kernel, by decide +kernel⟩, List.mem_of_getElem? (i := 779) (by decide +kernel), List.mem_of_getElem? (i := 1130) (by decide +kernel), List.mem_of_getElem? (i := 1131) (by decide +kernel)⟩
theorem lw_p78 : lw_okq (⟨"StairsNearModel", "canAsk", "(II)Z"⟩, 32) := ⟨⟨by decide +kernel, by decide +kernel⟩, List.mem_of_getElem? (i := 779) (by decide +kernel), List.mem_of_getElem? (i := 1142) (by decide +kernel), List.mem_of_getElem? (i := 1143) (by decide +kernel)⟩
theorem lw_p79 : lw_okq (⟨"StairsNearModel", "bound", "()I"⟩, 32) := ⟨⟨by decide +kernel, by decide +kernel⟩, List.mem_of_getElem? (i := 779) (by decide +kernel), List.mem_of_getElem? (i := 1146) (by decide +kernel), List.mem_of_getElem? (i := 1147) (by decide +kernel)⟩
def lw_privs_5 : List (MethodName × Nat) := [(⟨"StairsNearModel", "multiplies", "(II)V"⟩, 32), (⟨"StairsNearModel", "heapsLow", "(I)V"⟩, 32), (⟨"StairsNearModel", "heapsPart", "(II)V"⟩, 32), (⟨"StairsNearModel", "begins", "(II)V"⟩, 32), (⟨"StairsNearModel", "has", "(II)Z"⟩, 32), (⟨"StairsNearModel", "rowOf", "(II)I"⟩, 32), (⟨"StairsNearModel", "dividing", "(I)I"⟩, 32), (⟨"StairsNearModel", "divides", "(II)Z"⟩, 32), (⟨"StairsNearModel", "steps", "(I)Z"⟩, 32), (⟨"StairsNearModel", "turned", "(I)I"⟩, 32), (⟨"StairsNearModel", "lessens", "(IIIII)Z"⟩, 32), (⟨"StairsNearModel", "grows", "(III)Z"⟩, 32), (⟨"StairsNearModel", "carries", "(III)Z"⟩, 32), (⟨"StairsNearModel", "aheadOf", "(I)I"⟩, 32), (⟨"StairsNearModel", "canAsk", "(II)Z"⟩, 32), (⟨"StairsNearModel", "bound", "()I"⟩, 32)]
theorem lw_r5 : ∀ q ∈ lw_privs_5, lw_okq q := List.forall_mem_cons.mpr ⟨lw_p64, List.forall_mem_cons.mpr ⟨lw_p65, List.forall_mem_cons.mpr ⟨lw_p66, List.forall_mem_cons.mpr ⟨lw_p67, List.forall_mem_cons.mpr ⟨lw_p68, List.forall_mem_cons.mpr ⟨lw_p69, List.forall_mem_cons.mpr ⟨lw_p70, List.forall_mem_cons.mpr ⟨lw_p71, List.forall_mem_cons.mpr ⟨lw_p72, List.forall_mem_cons.mpr ⟨lw_p73, List.forall_mem_cons.mpr ⟨lw_p74, List.forall_mem_cons.mpr ⟨lw_p75, List.forall_mem_cons.mpr ⟨lw_p76, List.forall_mem_cons.mpr ⟨lw_p77, List.forall_mem_cons.mpr ⟨lw_p78, List.forall_mem_cons.mpr ⟨lw_p79, fun _ h => absurd h List.not_mem_nil⟩⟩⟩⟩⟩⟩⟩⟩⟩⟩⟩⟩⟩⟩⟩⟩
theorem lw_p80 : lw_okq (⟨"StairsNearModel", "laysIdeal", "(II)V"⟩, 32) := ⟨⟨by decide +kernel, by decide +kernel⟩, List.mem_of_getElem? (i := 779) (by decide +kernel), List.mem_of_getElem? (i := 1150) (by decide +kernel), List.mem_of_getElem? (i := 1151) (by decide +kernel)⟩
theorem lw_p81 : lw_okq (⟨"StairsNearModel", "beginsIdeal", "(I)V"⟩, 32) := ⟨⟨by decide +kernel, by decide +kernel⟩, List.mem_of_getElem? (i := 779) (by decide +kernel), List.mem_of_getElem? (i := 1154) (by decide +kernel), List.mem_of_getElem? (i := 1155) (by decide +kernel)⟩
theorem lw_p82 : lw_okq (⟨"StairsNearModel", "laysMonomials", "(I)V"⟩, 32) := ⟨⟨by decide +kernel, by decide +kernel⟩, List.mem_of_getElem? (i := 779) (by decide +kernel), List.mem_of_getElem? (i := 1158) (by decide +kernel), List.mem_of_getElem? (i := 1159) (by decide +kernel)⟩
theorem lw_p83 : lw_okq (⟨"StairsNearModel", "addsAll", "(I)V"⟩, 32) := ⟨⟨by decide +kernel, by decide +kernel⟩, List.mem_of_getElem? (i := 779) (by decide +kernel), List.mem_of_getElem? (i := 1162) (by decide +kernel), List.mem_of_getElem? (i := 1163) (by decide +kernel)⟩
theorem lw_p84 : lw_okq (⟨"StairsNearModel", "degreeAt", "(I)I"⟩, 32) := ⟨⟨by decide +kernel, by decide +kernel⟩, List.mem_of_getElem? (i := 779) (by decide +kernel), List.mem_of_getElem? (i := 1166) (by decide +kernel), List.mem_of_getElem? (i := 1167) (by decide +kernel)⟩
theorem lw_p85 : lw_okq (⟨"StairsNearModel", "laysRow", "(IIII)V"⟩, 32) := ⟨⟨by decide +kernel, by decide +kernel⟩, List.mem_of_getElem? (i := 779) (by decide +kernel), List.mem_of_getElem? (i := 1170) (by decide +kernel), List.mem_of_getElem? (i := 1171) (by decide +kernel)⟩
theorem lw_p86 : lw_okq (⟨"StairsNearModel", "clearsRow", "()V"⟩, 32) := ⟨⟨by decide +kernel, by decide +kernel⟩, List.mem_of_getElem? (i := 779) (by decide +kernel), List.mem_of_getElem? (i := 1174) (by decide +kernel), List.mem_of_getElem? (i := 1175) (by decide +kernel)⟩
theorem lw_p87 : lw_okq (⟨"StairsNearModel", "placeOf", "(III)I"⟩, 32) := ⟨⟨by decide +kernel, by decide +kernel⟩, List.mem_of_getElem? (i := 779) (by decide +kernel), List.mem_of_getElem? (i := 1178) (by decide +kernel), List.mem_of_getElem? (i := 1179) (by decide +kernel)⟩
theorem lw_p88 : lw_okq (⟨"StairsNearModel", "addsRow", "()V"⟩, 32) := ⟨⟨by decide +kernel, by decide +kernel⟩, List.mem_of_getElem? (i := 779) (by decide +kernel), List.mem_of_getElem? (i := 1182) (by decide +kernel), List.mem_of_getElem? (i := 1183) (by decide +kernel)⟩
theorem lw_p89 : lw_okq (⟨"StairsNearModel", "reduces", "()V"⟩, 32) := ⟨⟨by decide +kernel, by decide +kernel⟩, List.mem_of_getElem? (i := 779) (by decide +kernel), List.mem_of_getElem? (i := 1186) (by decide +kernel), List.mem_of_getElem? (i := 1187) (by decide +kernel)⟩
theorem lw_p90 : lw_okq (⟨"StairsNearModel", "found", "(ZI)I"⟩, 32) := ⟨⟨by decide +kernel, by decide +kernel⟩, List.mem_of_getElem? (i := 779) (by decide +kernel), List.mem_of_getElem? (i := 1190) (by decide +kernel), List.mem_of_getElem? (i := 1191) (by decide +kernel)⟩
theorem lw_p91 : lw_okq (⟨"StairsNearModel", "isCorner", "(I)Z"⟩, 32) := ⟨⟨by decide +kernel, by decide +kernel⟩, List.mem_of_getElem? (i := 779) (by decide +kernel), List.mem_of_getElem? (i := 1194) (by decide +kernel), List.mem_of_getElem? (i := 1195) (by decide +kernel)⟩
theorem lw_p92 : lw_okq (⟨"StairsNearModel", "isDivider", "(II)Z"⟩, 32) := ⟨⟨by decide +kernel, by decide +kernel⟩, List.mem_of_getElem? (i := 779) (by decide +kernel), List.mem_of_getElem? (i := 1198) (by decide +kernel), List.mem_of_getElem? (i := 1199) (by decide +kernel)⟩
theorem lw_p93 : lw_okq (⟨"StairsNearModel", "ofMonomial", "(II)I"⟩, 32) := ⟨⟨by decide +kernel, by decide +kernel⟩, List.mem_of_getElem? (i := 779) (by decide +kernel), List.mem_of_getElem? (i := 1206) (by decide +kernel), List.mem_of_getElem? (i := 1207) (by decide +kernel)⟩
theorem lw_p94 : lw_okq (⟨"StairsNearModel", "isSettled", "(I)Z"⟩, 32) := ⟨⟨by decide +kernel, by decide +kernel⟩, List.mem_of_getElem? (i := 779) (by decide +kernel), List.mem_of_getElem? (i := 1227) (by decide +kernel), List.mem_of_getElem? (i := 1228) (by decide +kernel)⟩
theorem lw_p95 : lw_okq (⟨"StairsNearModel", "greatestWeight", "()I"⟩, 32) := ⟨⟨by decide +kernel, by decide +kernel⟩, List.mem_of_getElem? (i := 779) (by decide +kernel), List.mem_of_getElem? (i := 1231) (by decide +kernel), List.mem_of_getElem? (i := 1232) (by decide +kernel)⟩
def lw_privs_6 : List (MethodName × Nat) := [(⟨"StairsNearModel", "laysIdeal", "(II)V"⟩, 32), (⟨"StairsNearModel", "beginsIdeal", "(I)V"⟩, 32), (⟨"StairsNearModel", "laysMonomials", "(I)V"⟩, 32), (⟨"StairsNearModel", "addsAll", "(I)V"⟩, 32), (⟨"StairsNearModel", "degreeAt", "(I)I"⟩, 32), (⟨"StairsNearModel", "laysRow", "(IIII)V"⟩, 32), (⟨"StairsNearModel", "clearsRow", "()V"⟩, 32), (⟨"StairsNearModel", "placeOf", "(III)I"⟩, 32), (⟨"StairsNearModel", "addsRow", "()V"⟩, 32), (⟨"StairsNearModel", "reduces", "()V"⟩, 32), (⟨"StairsNearModel", "found", "(ZI)I"⟩, 32), (⟨"StairsNearModel", "isCorner", "(I)Z"⟩, 32), (⟨"StairsNearModel", "isDivider", "(II)Z"⟩, 32), (⟨"StairsNearModel", "ofMonomial", "(II)I"⟩, 32), (⟨"StairsNearModel", "isSettled", "(I)Z"⟩, 32), (⟨"StairsNearModel", "greatestWeight", "()I"⟩, 32)]
theorem lw_r6 : ∀ q ∈ lw_privs_6, lw_okq q := List.forall_mem_cons.mpr ⟨lw_p80, List.forall_mem_cons.mpr ⟨lw_p81, List.forall_mem_cons.mpr ⟨lw_p82, List.forall_mem_cons.mpr ⟨lw_p83, List.forall_mem_cons.mpr ⟨lw_p84, List.forall_mem_cons.mpr ⟨lw_p85, List.forall_mem_cons.mpr ⟨lw_p86, List.forall_mem_cons.mpr ⟨lw_p87, List.forall_mem_cons.mpr ⟨lw_p88, List.forall_mem_cons.mpr ⟨lw_p89, List.forall_mem_cons.mpr ⟨lw_p90, List.forall_mem_cons.mpr ⟨lw_p91, List.forall_mem_cons.mpr ⟨lw_p92, List.forall_mem_cons.mpr ⟨lw_p93, List.forall_mem_cons.mpr ⟨lw_p94, List.forall_mem_cons.mpr ⟨lw_p95, fun _ h => absurd h List.not_mem_nil⟩⟩⟩⟩⟩⟩⟩⟩⟩⟩⟩⟩⟩⟩⟩⟩
theorem lw_p96 : lw_okq (⟨"StairsNearModel", "allOf", "(I)I"⟩, 32) := ⟨⟨by decide +kernel, by decide +kernel⟩, List.mem_of_getElem? (i := 779) (by decide +kernel), List.mem_of_getElem? (i := 1243) (by decide +kernel), List.mem_of_getElem? (i := 1244) (by decide +kernel)⟩
theorem lw_p97 : lw_okq (⟨"StairsNearModel", "notNought", "()I"⟩, 32) := ⟨⟨by decide +kernel, by decide +kernel⟩, List.mem_of_getElem? (i := 779) (by decide +kernel), List.mem_of_getElem? (i := 1251) (by decide +kernel), List.mem_of_getElem? (i := 1252) (by decide +kernel)⟩
def lw_privs_7 : List (MethodName × Nat) := [(⟨"StairsNearModel", "allOf", "(I)I"⟩, 32), (⟨"StairsNearModel", "notNought", "()I"⟩, 32)]
theorem lw_r7 : ∀ q ∈ lw_privs_7, lw_okq q := List.forall_mem_cons.mpr ⟨lw_p96, List.forall_mem_cons.mpr ⟨lw_p97, fun _ h => absurd h List.not_mem_nil⟩⟩
def lw_privs : List (MethodName × Nat) := lw_privs_1 ++ (lw_privs_2 ++ (lw_privs_3 ++ (lw_privs_4 ++ (lw_privs_5 ++ (lw_privs_6 ++ (lw_privs_7))))))
def lw_tbl : List Cond := k2_sels lw_privs ++ tables_1
theorem lw_privs_ok : ∀ q ∈ lw_privs, lw_okq q := by
  show ∀ q ∈ lw_privs_1 ++ (lw_privs_2 ++ (lw_privs_3 ++ (lw_privs_4 ++ (lw_privs_5 ++ (lw_privs_6 ++ (lw_privs_7)))))), lw_okq q
  exact List.forall_mem_append.mpr ⟨lw_r1, List.forall_mem_append.mpr ⟨lw_r2, List.forall_mem_append.mpr ⟨lw_r3, List.forall_mem_append.mpr ⟨lw_r4, List.forall_mem_append.mpr ⟨lw_r5, List.forall_mem_append.mpr ⟨lw_r6, lw_r7⟩⟩⟩⟩⟩⟩

-- names, printed by the kit's program out of the class files
/-! ===== BEGIN words of one list among another's, by their places ===== -/
theorem goodIn_r {big : List Cond} (ws : List Cond) (ps : List Nat) (hp : ws = ps.filterMap (fun i => big[i]?)) (h : ws.all goodWord = true) : GoodIn big ws := by
  intro w hw
  have h1 := List.all_eq_true.mp h w hw
  rw [hp] at hw
  obtain ⟨i, -, hi⟩ := List.mem_filterMap.mp hw
  have hm : w ∈ big := by first | exact List.mem_of_getElem? hi | exact List.getElem?_mem hi
  exact ⟨hm, good_of_word h1⟩
theorem goodIn_app {big a b : List Cond} (ha : GoodIn big a) (hb : GoodIn big b) : GoodIn big (a ++ b) := fun w h => (List.mem_append.mp h).elim (ha w) (hb w)
theorem goodIn_ca {big a b : List Cond} {c : Cond} (ha : GoodIn big (c :: a)) (hb : GoodIn big b) : GoodIn big (c :: (a ++ b)) := fun w h => (List.mem_cons.mp h).elim (fun e => ha w (List.mem_cons.mpr (Or.inl e))) (fun h => (List.mem_append.mp h).elim (fun h => ha w (List.mem_cons.mpr (Or.inr h))) (hb w))
theorem goodIn_sub {big ws : List Cond} (hm : ∀ w ∈ ws, w ∈ big) (h : ws.all goodWord = true) : GoodIn big ws := fun w hw => ⟨hm w hw, good_of_word (List.all_eq_true.mp h w hw)⟩
/-! ===== END ===== -/
def RX0 : String := "StairsNear$Division"
def TX0 : u_T := fun k => match k with
  | 0 => ("StairsNear$Division", "stands", "Z", false)
  | 1 => ("StairsNear$Division", "set", "I", false)
  | 2 => ("StairsNear$Division", "slot", "I", false)
  | 3 => ("StairsNear$Division", "steps", "I", false)
  | 4 => ("StairsNear$Division", "divisors", "I", false)
  | 5 => ("StairsNear$Division", "equations", "[LStairsNear$Equation;", true)
  | 6 => ("StairsNear$Division", "told", "[[I", true)
  | 7 => ("StairsNear$Division", "now", "LStairsNear$Equation;", false)
  | _ => ("StairsNear$Division", "after", "LStairsNear$Equation;", false)
def tyX0 : Nat → FieldType := fun k => match k with
  | 0 => .boolean
  | 1 => .int
  | 2 => .int
  | 3 => .int
  | 4 => .int
  | 5 => .array (.object "StairsNear$Equation")
  | 6 => .array (.array .int)
  | 7 => .object "StairsNear$Equation"
  | _ => .object "StairsNear$Equation"
abbrev wsX00 : List Cond := u_ws RX0 TX0 9
theorem nmX0 : ∀ a, a < 9 → ∀ b, b < 9 → a ≠ b → (TX0 a).2.1 ≠ (TX0 b).2.1 := by decide +kernel
theorem tyX0_ok : ∀ k, k < 9 → parseFieldDescriptor (TX0 k).2.2.1 = some (tyX0 k) := by decide +kernel
abbrev cX0_init : ByteArray := prog_2_method_1_code
def yX0_init : MethodName := ⟨RX0, "<init>", "()V"⟩
abbrev cX0_divide : ByteArray := prog_2_method_2_code
def yX0_divide : MethodName := ⟨RX0, "divide", "([LStairsNear$Poly;IILStairsNear$Numbers;)I"⟩
abbrev cX0_keptOne : ByteArray := prog_2_method_3_code
def yX0_keptOne : MethodName := ⟨RX0, "keptOne", "(I)LStairsNear$Poly;"⟩
abbrev cX0_tellStep : ByteArray := prog_2_method_4_code
def yX0_tellStep : MethodName := ⟨RX0, "tellStep", "(II)I"⟩
abbrev cX0_tellWhole : ByteArray := prog_2_method_5_code
def yX0_tellWhole : MethodName := ⟨RX0, "tellWhole", "(I)I"⟩
abbrev cX0_begin : ByteArray := prog_2_method_6_code
def yX0_begin : MethodName := ⟨RX0, "begin", "([LStairsNear$Poly;IILStairsNear$Numbers;)V"⟩
abbrev cX0_bestDivisor : ByteArray := prog_2_method_7_code
def yX0_bestDivisor : MethodName := ⟨RX0, "bestDivisor", "()I"⟩
abbrev cX0_stepBy : ByteArray := prog_2_method_8_code
def yX0_stepBy : MethodName := ⟨RX0, "stepBy", "(ILStairsNear$Numbers;)Z"⟩
abbrev cX0_subtract : ByteArray := prog_2_method_9_code
def yX0_subtract : MethodName := ⟨RX0, "subtract", "(LStairsNear$Equation;LStairsNear$Numbers;)Z"⟩
def RX1 : String := "StairsNear$Equation"
def TX1 : u_T := fun k => match k with
  | 0 => ("StairsNear$Equation", "value", "LStairsNear$Poly;", true)
  | 1 => ("StairsNear$Equation", "unit", "LStairsNear$Poly;", true)
  | _ => ("StairsNear$Equation", "shares", "[LStairsNear$Poly;", true)
def tyX1 : Nat → FieldType := fun k => match k with
  | 0 => .object "StairsNear$Poly"
  | 1 => .object "StairsNear$Poly"
  | _ => .array (.object "StairsNear$Poly")
abbrev wsX10 : List Cond := u_ws RX1 TX1 3
theorem nmX1 : ∀ a, a < 3 → ∀ b, b < 3 → a ≠ b → (TX1 a).2.1 ≠ (TX1 b).2.1 := by decide +kernel
theorem tyX1_ok : ∀ k, k < 3 → parseFieldDescriptor (TX1 k).2.2.1 = some (tyX1 k) := by decide +kernel
abbrev cX1_init : ByteArray := prog_3_method_1_code
def yX1_init : MethodName := ⟨RX1, "<init>", "()V"⟩
abbrev cX1_begin : ByteArray := prog_3_method_2_code
def yX1_begin : MethodName := ⟨RX1, "begin", "(LStairsNear$Poly;)V"⟩
abbrev cX1_become : ByteArray := prog_3_method_3_code
def yX1_become : MethodName := ⟨RX1, "become", "(LStairsNear$Equation;)V"⟩
abbrev cX1_mix : ByteArray := prog_3_method_4_code
def yX1_mix : MethodName := ⟨RX1, "mix", "(LStairsNear$Equation;IILStairsNear$Equation;LStairsNear$Numbers;)Z"⟩
def RX2 : String := "StairsNear$Ideal"
def TX2 : u_T := fun k => match k with
  | 0 => ("StairsNear$Ideal", "set", "I", false)
  | 1 => ("StairsNear$Ideal", "rows", "[[I", true)
  | 2 => ("StairsNear$Ideal", "kinds", "[I", true)
  | _ => ("StairsNear$Ideal", "line", "[I", true)
def tyX2 : Nat → FieldType := fun k => match k with
  | 0 => .int
  | 1 => .array (.array .int)
  | 2 => .array .int
  | _ => .array .int
abbrev wsX20 : List Cond := u_ws RX2 TX2 4
theorem nmX2 : ∀ a, a < 4 → ∀ b, b < 4 → a ≠ b → (TX2 a).2.1 ≠ (TX2 b).2.1 := by decide +kernel
theorem tyX2_ok : ∀ k, k < 4 → parseFieldDescriptor (TX2 k).2.2.1 = some (tyX2 k) := by decide +kernel
abbrev cX2_init : ByteArray := prog_4_method_1_code
def yX2_init : MethodName := ⟨RX2, "<init>", "()V"⟩
abbrev cX2_build : ByteArray := prog_4_method_2_code
def yX2_build : MethodName := ⟨RX2, "build", "([LStairsNear$Poly;ILStairsNear$Ring;)V"⟩
abbrev cX2_count : ByteArray := prog_4_method_3_code
def yX2_count : MethodName := ⟨RX2, "count", "(III)I"⟩
abbrev cX2_find : ByteArray := prog_4_method_4_code
def yX2_find : MethodName := ⟨RX2, "find", "(III)I"⟩
abbrev cX2_settledAt : ByteArray := prog_4_method_5_code
def yX2_settledAt : MethodName := ⟨RX2, "settledAt", "(LStairsNear$Ring;)I"⟩
abbrev cX2_size : ByteArray := prog_4_method_6_code
def yX2_size : MethodName := ⟨RX2, "size", "(LStairsNear$Ring;)I"⟩
abbrev cX2_leaveOver : ByteArray := prog_4_method_7_code
def yX2_leaveOver : MethodName := ⟨RX2, "leaveOver", "(LStairsNear$Poly;ILStairsNear$Poly;LStairsNear$Ring;)Z"⟩
abbrev cX2_isOf : ByteArray := prog_4_method_8_code
def yX2_isOf : MethodName := ⟨RX2, "isOf", "(II)Z"⟩
abbrev cX2_load : ByteArray := prog_4_method_9_code
def yX2_load : MethodName := ⟨RX2, "load", "(LStairsNear$Poly;LStairsNear$Ring;)V"⟩
abbrev cX2_loadProduct : ByteArray := prog_4_method_10_code
def yX2_loadProduct : MethodName := ⟨RX2, "loadProduct", "([I[II)V"⟩
abbrev cX2_insertLine : ByteArray := prog_4_method_11_code
def yX2_insertLine : MethodName := ⟨RX2, "insertLine", "(ILStairsNear$Numbers;)V"⟩
abbrev cX2_storeRow : ByteArray := prog_4_method_12_code
def yX2_storeRow : MethodName := ⟨RX2, "storeRow", "(IILStairsNear$Numbers;)V"⟩
abbrev cX2_subtractRow : ByteArray := prog_4_method_13_code
def yX2_subtractRow : MethodName := ⟨RX2, "subtractRow", "(IILStairsNear$Numbers;)V"⟩
abbrev cX2_markNoCorner : ByteArray := prog_4_method_14_code
def yX2_markNoCorner : MethodName := ⟨RX2, "markNoCorner", "(I)V"⟩
def RX3 : String := "StairsNear$Mono"
def TX3 : u_T := fun k => match k with
  | _ => ("", "", "", false)
def tyX3 : Nat → FieldType := fun k => match k with
  | _ => .int
abbrev wsX30 : List Cond := u_ws RX3 TX3 0
theorem nmX3 : ∀ a, a < 0 → ∀ b, b < 0 → a ≠ b → (TX3 a).2.1 ≠ (TX3 b).2.1 := by decide +kernel
theorem tyX3_ok : ∀ k, k < 0 → parseFieldDescriptor (TX3 k).2.2.1 = some (tyX3 k) := by decide +kernel
abbrev cX3_degree : ByteArray := prog_5_method_2_code
def yX3_degree : MethodName := ⟨RX3, "degree", "(I)I"⟩
abbrev cX3_exponent : ByteArray := prog_5_method_3_code
def yX3_exponent : MethodName := ⟨RX3, "exponent", "(II)I"⟩
abbrev cX3_of : ByteArray := prog_5_method_4_code
def yX3_of : MethodName := ⟨RX3, "of", "(IIII)I"⟩
abbrev cX3_times : ByteArray := prog_5_method_5_code
def yX3_times : MethodName := ⟨RX3, "times", "(II)I"⟩
abbrev cX3_by : ByteArray := prog_5_method_6_code
def yX3_by : MethodName := ⟨RX3, "by", "(II)I"⟩
abbrev cX3_divides : ByteArray := prog_5_method_7_code
def yX3_divides : MethodName := ⟨RX3, "divides", "(II)Z"⟩
abbrev cX3_isTooHigh : ByteArray := prog_5_method_8_code
def yX3_isTooHigh : MethodName := ⟨RX3, "isTooHigh", "(I)Z"⟩
def RX4 : String := "StairsNear$Numbers"
def TX4 : u_T := fun k => match k with
  | _ => ("StairsNear$Numbers", "prime", "I", true)
def tyX4 : Nat → FieldType := fun k => match k with
  | _ => .int
abbrev wsX40 : List Cond := u_ws RX4 TX4 1
theorem nmX4 : ∀ a, a < 1 → ∀ b, b < 1 → a ≠ b → (TX4 a).2.1 ≠ (TX4 b).2.1 := by decide +kernel
theorem tyX4_ok : ∀ k, k < 1 → parseFieldDescriptor (TX4 k).2.2.1 = some (tyX4 k) := by decide +kernel
abbrev cX4_init : ByteArray := prog_6_method_1_code
def yX4_init : MethodName := ⟨RX4, "<init>", "(I)V"⟩
abbrev cX4_reduced : ByteArray := prog_6_method_2_code
def yX4_reduced : MethodName := ⟨RX4, "reduced", "(I)I"⟩
abbrev cX4_negative : ByteArray := prog_6_method_3_code
def yX4_negative : MethodName := ⟨RX4, "negative", "(I)I"⟩
abbrev cX4_times : ByteArray := prog_6_method_4_code
def yX4_times : MethodName := ⟨RX4, "times", "(II)I"⟩
abbrev cX4_plusTimes : ByteArray := prog_6_method_5_code
def yX4_plusTimes : MethodName := ⟨RX4, "plusTimes", "(III)I"⟩
abbrev cX4_inverse : ByteArray := prog_6_method_6_code
def yX4_inverse : MethodName := ⟨RX4, "inverse", "(I)I"⟩
def RX5 : String := "StairsNear$Poly"
def TX5 : u_T := fun k => match k with
  | 0 => ("StairsNear$Poly", "monos", "[I", true)
  | 1 => ("StairsNear$Poly", "nums", "[I", true)
  | _ => ("StairsNear$Poly", "size", "I", false)
def tyX5 : Nat → FieldType := fun k => match k with
  | 0 => .array .int
  | 1 => .array .int
  | _ => .int
abbrev wsX50 : List Cond := u_ws RX5 TX5 3
theorem nmX5 : ∀ a, a < 3 → ∀ b, b < 3 → a ≠ b → (TX5 a).2.1 ≠ (TX5 b).2.1 := by decide +kernel
theorem tyX5_ok : ∀ k, k < 3 → parseFieldDescriptor (TX5 k).2.2.1 = some (tyX5 k) := by decide +kernel
abbrev cX5_init : ByteArray := prog_7_method_1_code
def yX5_init : MethodName := ⟨RX5, "<init>", "(I)V"⟩
abbrev cX5_clear : ByteArray := prog_7_method_2_code
def yX5_clear : MethodName := ⟨RX5, "clear", "()V"⟩
abbrev cX5_low : ByteArray := prog_7_method_3_code
def yX5_low : MethodName := ⟨RX5, "low", "()I"⟩
abbrev cX5_high : ByteArray := prog_7_method_4_code
def yX5_high : MethodName := ⟨RX5, "high", "()I"⟩
abbrev cX5_ecart : ByteArray := prog_7_method_5_code
def yX5_ecart : MethodName := ⟨RX5, "ecart", "()I"⟩
abbrev cX5_append : ByteArray := prog_7_method_6_code
def yX5_append : MethodName := ⟨RX5, "append", "(II)Z"⟩
abbrev cX5_become : ByteArray := prog_7_method_7_code
def yX5_become : MethodName := ⟨RX5, "become", "(LStairsNear$Poly;)V"⟩
abbrev cX5_becomeNumber : ByteArray := prog_7_method_8_code
def yX5_becomeNumber : MethodName := ⟨RX5, "becomeNumber", "(I)V"⟩
abbrev cX5_becomeLowest : ByteArray := prog_7_method_9_code
def yX5_becomeLowest : MethodName := ⟨RX5, "becomeLowest", "(LStairsNear$Poly;)V"⟩
abbrev cX5_becomeDerivative : ByteArray := prog_7_method_10_code
def yX5_becomeDerivative : MethodName := ⟨RX5, "becomeDerivative", "(LStairsNear$Poly;ILStairsNear$Ring;)V"⟩
abbrev cX5_mix : ByteArray := prog_7_method_11_code
def yX5_mix : MethodName := ⟨RX5, "mix", "(LStairsNear$Poly;IILStairsNear$Poly;LStairsNear$Numbers;)Z"⟩
abbrev cX5_add : ByteArray := prog_7_method_12_code
def yX5_add : MethodName := ⟨RX5, "add", "(IILStairsNear$Numbers;)V"⟩
abbrev cX5_dropZeros : ByteArray := prog_7_method_13_code
def yX5_dropZeros : MethodName := ⟨RX5, "dropZeros", "()V"⟩
abbrev cX5_reorder : ByteArray := prog_7_method_14_code
def yX5_reorder : MethodName := ⟨RX5, "reorder", "(LStairsNear$Ring;)V"⟩
abbrev cX5_insert : ByteArray := prog_7_method_15_code
def yX5_insert : MethodName := ⟨RX5, "insert", "(III)V"⟩
def RX6 : String := "StairsNear$Ring"
def TX6 : u_T := fun k => match k with
  | 0 => ("StairsNear$Ring", "variables", "I", false)
  | 1 => ("StairsNear$Ring", "numbers", "LStairsNear$Numbers;", false)
  | 2 => ("StairsNear$Ring", "weights", "[I", true)
  | 3 => ("StairsNear$Ring", "monos", "[I", true)
  | 4 => ("StairsNear$Ring", "below", "[I", true)
  | 5 => ("StairsNear$Ring", "next", "[[I", true)
  | _ => ("StairsNear$Ring", "listed", "I", false)
def tyX6 : Nat → FieldType := fun k => match k with
  | 0 => .int
  | 1 => .object "StairsNear$Numbers"
  | 2 => .array .int
  | 3 => .array .int
  | 4 => .array .int
  | 5 => .array (.array .int)
  | _ => .int
abbrev wsX60 : List Cond := u_ws RX6 TX6 7
theorem nmX6 : ∀ a, a < 7 → ∀ b, b < 7 → a ≠ b → (TX6 a).2.1 ≠ (TX6 b).2.1 := by decide +kernel
theorem tyX6_ok : ∀ k, k < 7 → parseFieldDescriptor (TX6 k).2.2.1 = some (tyX6 k) := by decide +kernel
abbrev cX6_init : ByteArray := prog_8_method_1_code
def yX6_init : MethodName := ⟨RX6, "<init>", "()V"⟩
abbrev cX6_bound : ByteArray := prog_8_method_2_code
def yX6_bound : MethodName := ⟨RX6, "bound", "()I"⟩
abbrev cX6_width : ByteArray := prog_8_method_3_code
def yX6_width : MethodName := ⟨RX6, "width", "()I"⟩
abbrev cX6_weigh : ByteArray := prog_8_method_4_code
def yX6_weigh : MethodName := ⟨RX6, "weigh", "(III)V"⟩
abbrev cX6_greatestWeight : ByteArray := prog_8_method_5_code
def yX6_greatestWeight : MethodName := ⟨RX6, "greatestWeight", "()I"⟩
abbrev cX6_mono : ByteArray := prog_8_method_6_code
def yX6_mono : MethodName := ⟨RX6, "mono", "(III)I"⟩
abbrev cX6_variable : ByteArray := prog_8_method_7_code
def yX6_variable : MethodName := ⟨RX6, "variable", "(I)I"⟩
abbrev cX6_column : ByteArray := prog_8_method_8_code
def yX6_column : MethodName := ⟨RX6, "column", "(I)I"⟩
abbrev cX6_listDegree : ByteArray := prog_8_method_9_code
def yX6_listDegree : MethodName := ⟨RX6, "listDegree", "(I)V"⟩
abbrev cX6_linkProducts : ByteArray := prog_8_method_10_code
def yX6_linkProducts : MethodName := ⟨RX6, "linkProducts", "(I)V"⟩
def RX7 : String := "StairsNear$Tape"
def TX7 : u_T := fun k => match k with
  | 0 => ("StairsNear$Tape", "bytes", "[I", true)
  | 1 => ("StairsNear$Tape", "size", "I", false)
  | 2 => ("StairsNear$Tape", "fault", "I", false)
  | 3 => ("StairsNear$Tape", "place", "I", false)
  | 4 => ("StairsNear$Tape", "sum", "LStairsNear$Poly;", true)
  | 5 => ("StairsNear$Tape", "at", "I", false)
  | 6 => ("StairsNear$Tape", "num", "I", false)
  | _ => ("StairsNear$Tape", "exponents", "[I", true)
def tyX7 : Nat → FieldType := fun k => match k with
  | 0 => .array .int
  | 1 => .int
  | 2 => .int
  | 3 => .int
  | 4 => .object "StairsNear$Poly"
  | 5 => .int
  | 6 => .int
  | _ => .array .int
abbrev wsX70 : List Cond := u_ws RX7 TX7 8
theorem nmX7 : ∀ a, a < 8 → ∀ b, b < 8 → a ≠ b → (TX7 a).2.1 ≠ (TX7 b).2.1 := by decide +kernel
theorem tyX7_ok : ∀ k, k < 8 → parseFieldDescriptor (TX7 k).2.2.1 = some (tyX7 k) := by decide +kernel
abbrev cX7_init : ByteArray := prog_9_method_1_code
def yX7_init : MethodName := ⟨RX7, "<init>", "()V"⟩
abbrev cX7_take : ByteArray := prog_9_method_2_code
def yX7_take : MethodName := ⟨RX7, "take", "(I)V"⟩
abbrev cX7_clearFault : ByteArray := prog_9_method_3_code
def yX7_clearFault : MethodName := ⟨RX7, "clearFault", "()V"⟩
abbrev cX7_read : ByteArray := prog_9_method_4_code
def yX7_read : MethodName := ⟨RX7, "read", "(LStairsNear$Ring;)V"⟩
abbrev cX7_readSummand : ByteArray := prog_9_method_5_code
def yX7_readSummand : MethodName := ⟨RX7, "readSummand", "(ZLStairsNear$Ring;)V"⟩
abbrev cX7_factorIsAhead : ByteArray := prog_9_method_6_code
def yX7_factorIsAhead : MethodName := ⟨RX7, "factorIsAhead", "(LStairsNear$Ring;)Z"⟩
abbrev cX7_readFactor : ByteArray := prog_9_method_7_code
def yX7_readFactor : MethodName := ⟨RX7, "readFactor", "(LStairsNear$Ring;)V"⟩
abbrev cX7_readPower : ByteArray := prog_9_method_8_code
def yX7_readPower : MethodName := ⟨RX7, "readPower", "(I)V"⟩
abbrev cX7_readDigits : ByteArray := prog_9_method_9_code
def yX7_readDigits : MethodName := ⟨RX7, "readDigits", "(I)I"⟩
abbrev cX7_ahead : ByteArray := prog_9_method_10_code
def yX7_ahead : MethodName := ⟨RX7, "ahead", "()I"⟩
abbrev cX7_blame : ByteArray := prog_9_method_11_code
def yX7_blame : MethodName := ⟨RX7, "blame", "(II)V"⟩
abbrev cX7_isDigit : ByteArray := prog_9_method_12_code
def yX7_isDigit : MethodName := ⟨RX7, "isDigit", "(I)Z"⟩
abbrev cX7_isVariable : ByteArray := prog_9_method_13_code
def yX7_isVariable : MethodName := ⟨RX7, "isVariable", "(ILStairsNear$Ring;)Z"⟩
def RX8 : String := "StairsNear$Text"
def TX8 : u_T := fun k => match k with
  | 0 => ("StairsNear$Text", "bytes", "[I", true)
  | _ => ("StairsNear$Text", "size", "I", false)
def tyX8 : Nat → FieldType := fun k => match k with
  | 0 => .array .int
  | _ => .int
abbrev wsX80 : List Cond := u_ws RX8 TX8 2
theorem nmX8 : ∀ a, a < 2 → ∀ b, b < 2 → a ≠ b → (TX8 a).2.1 ≠ (TX8 b).2.1 := by decide +kernel
theorem tyX8_ok : ∀ k, k < 2 → parseFieldDescriptor (TX8 k).2.2.1 = some (tyX8 k) := by decide +kernel
abbrev cX8_init : ByteArray := prog_10_method_1_code
def yX8_init : MethodName := ⟨RX8, "<init>", "()V"⟩
abbrev cX8_write : ByteArray := prog_10_method_2_code
def yX8_write : MethodName := ⟨RX8, "write", "(LStairsNear$Poly;)V"⟩
abbrev cX8_putPower : ByteArray := prog_10_method_3_code
def yX8_putPower : MethodName := ⟨RX8, "putPower", "(II)V"⟩
abbrev cX8_putNumber : ByteArray := prog_10_method_4_code
def yX8_putNumber : MethodName := ⟨RX8, "putNumber", "(I)V"⟩
abbrev cX8_put : ByteArray := prog_10_method_5_code
def yX8_put : MethodName := ⟨RX8, "put", "(I)V"⟩
def RX9 : String := "StairsNear"
def TX9 : u_T := fun k => match k with
  | 0 => ("StairsNear", "ring", "LStairsNear$Ring;", true)
  | 1 => ("StairsNear", "slots", "[LStairsNear$Poly;", true)
  | 2 => ("StairsNear", "tape", "LStairsNear$Tape;", true)
  | 3 => ("StairsNear", "shown", "LStairsNear$Text;", true)
  | 4 => ("StairsNear", "division", "LStairsNear$Division;", true)
  | 5 => ("StairsNear", "ideals", "[LStairsNear$Ideal;", true)
  | 6 => ("StairsNear", "sources", "[LStairsNear$Poly;", true)
  | 7 => ("StairsNear", "nextIdeal", "I", false)
  | 8 => ("StairsNear", "spare", "LStairsNear$Poly;", false)
  | 9 => ("StairsNear", "product", "LStairsNear$Poly;", false)
  | _ => ("StairsNear", "productSpare", "LStairsNear$Poly;", false)
def tyX9 : Nat → FieldType := fun k => match k with
  | 0 => .object "StairsNear$Ring"
  | 1 => .array (.object "StairsNear$Poly")
  | 2 => .object "StairsNear$Tape"
  | 3 => .object "StairsNear$Text"
  | 4 => .object "StairsNear$Division"
  | 5 => .array (.object "StairsNear$Ideal")
  | 6 => .array (.object "StairsNear$Poly")
  | 7 => .int
  | 8 => .object "StairsNear$Poly"
  | 9 => .object "StairsNear$Poly"
  | _ => .object "StairsNear$Poly"
abbrev wsX90 : List Cond := u_ws RX9 TX9 11
theorem nmX9 : ∀ a, a < 11 → ∀ b, b < 11 → a ≠ b → (TX9 a).2.1 ≠ (TX9 b).2.1 := by decide +kernel
theorem tyX9_ok : ∀ k, k < 11 → parseFieldDescriptor (TX9 k).2.2.1 = some (tyX9 k) := by decide +kernel
abbrev cX9_init : ByteArray := prog_1_method_1_code
def yX9_init : MethodName := ⟨RX9, "<init>", "()V"⟩
abbrev cX9_ring : ByteArray := prog_1_method_2_code
def yX9_ring : MethodName := ⟨RX9, "ring", "(II)Z"⟩
abbrev cX9_weights : ByteArray := prog_1_method_3_code
def yX9_weights : MethodName := ⟨RX9, "weights", "(III)Z"⟩
abbrev cX9_feed : ByteArray := prog_1_method_4_code
def yX9_feed : MethodName := ⟨RX9, "feed", "(IIIII)I"⟩
abbrev cX9_end : ByteArray := prog_1_method_5_code
def yX9_end : MethodName := ⟨RX9, "end", "(I)Z"⟩
abbrev cX9_poly : ByteArray := prog_1_method_6_code
def yX9_poly : MethodName := ⟨RX9, "poly", "(I)I"⟩
abbrev cX9_fault : ByteArray := prog_1_method_7_code
def yX9_fault : MethodName := ⟨RX9, "fault", "(I)I"⟩
abbrev cX9_show : ByteArray := prog_1_method_8_code
def yX9_show : MethodName := ⟨RX9, "show", "(I)I"⟩
abbrev cX9_out : ByteArray := prog_1_method_9_code
def yX9_out : MethodName := ⟨RX9, "out", "(I)I"⟩
abbrev cX9_term : ByteArray := prog_1_method_10_code
def yX9_term : MethodName := ⟨RX9, "term", "(III)I"⟩
abbrev cX9_shape : ByteArray := prog_1_method_11_code
def yX9_shape : MethodName := ⟨RX9, "shape", "(II)I"⟩
abbrev cX9_make : ByteArray := prog_1_method_12_code
def yX9_make : MethodName := ⟨RX9, "make", "(IIII)I"⟩
abbrev cX9_part : ByteArray := prog_1_method_13_code
def yX9_part : MethodName := ⟨RX9, "part", "(III)I"⟩
abbrev cX9_weak : ByteArray := prog_1_method_14_code
def yX9_weak : MethodName := ⟨RX9, "weak", "(II)I"⟩
abbrev cX9_kept : ByteArray := prog_1_method_15_code
def yX9_kept : MethodName := ⟨RX9, "kept", "(II)I"⟩
abbrev cX9_step : ByteArray := prog_1_method_16_code
def yX9_step : MethodName := ⟨RX9, "step", "(II)I"⟩
abbrev cX9_corners : ByteArray := prog_1_method_17_code
def yX9_corners : MethodName := ⟨RX9, "corners", "(II)I"⟩
abbrev cX9_corner : ByteArray := prog_1_method_18_code
def yX9_corner : MethodName := ⟨RX9, "corner", "(IIII)I"⟩
abbrev cX9_stairs : ByteArray := prog_1_method_19_code
def yX9_stairs : MethodName := ⟨RX9, "stairs", "(III)I"⟩
abbrev cX9_stair : ByteArray := prog_1_method_20_code
def yX9_stair : MethodName := ⟨RX9, "stair", "(IIII)I"⟩
abbrev cX9_rest : ByteArray := prog_1_method_21_code
def yX9_rest : MethodName := ⟨RX9, "rest", "(IIII)I"⟩
abbrev cX9_length : ByteArray := prog_1_method_22_code
def yX9_length : MethodName := ⟨RX9, "length", "(II)I"⟩
abbrev cX9_number : ByteArray := prog_1_method_23_code
def yX9_number : MethodName := ⟨RX9, "number", "(II)I"⟩
abbrev cX9_all : ByteArray := prog_1_method_24_code
def yX9_all : MethodName := ⟨RX9, "all", "(II)I"⟩
abbrev cX9_look : ByteArray := prog_1_method_25_code
def yX9_look : MethodName := ⟨RX9, "look", "(I)I"⟩
abbrev cX9_polys : ByteArray := prog_1_method_26_code
def yX9_polys : MethodName := ⟨RX9, "polys", "(I)[LStairsNear$Poly;"⟩
abbrev cX9_isPrime : ByteArray := prog_1_method_27_code
def yX9_isPrime : MethodName := ⟨RX9, "isPrime", "(I)Z"⟩
abbrev cX9_isWeight : ByteArray := prog_1_method_28_code
def yX9_isWeight : MethodName := ⟨RX9, "isWeight", "(I)Z"⟩
abbrev cX9_isSlot : ByteArray := prog_1_method_29_code
def yX9_isSlot : MethodName := ⟨RX9, "isSlot", "(I)Z"⟩
abbrev cX9_isSet : ByteArray := prog_1_method_30_code
def yX9_isSet : MethodName := ⟨RX9, "isSet", "(I)Z"⟩
abbrev cX9_isBound : ByteArray := prog_1_method_31_code
def yX9_isBound : MethodName := ⟨RX9, "isBound", "(I)Z"⟩
abbrev cX9_held : ByteArray := prog_1_method_32_code
def yX9_held : MethodName := ⟨RX9, "held", "(I)I"⟩
abbrev cX9_putSpare : ByteArray := prog_1_method_33_code
def yX9_putSpare : MethodName := ⟨RX9, "putSpare", "(I)I"⟩
abbrev cX9_forgetWhatWasWorkedOut : ByteArray := prog_1_method_34_code
def yX9_forgetWhatWasWorkedOut : MethodName := ⟨RX9, "forgetWhatWasWorkedOut", "()V"⟩
abbrev cX9_multiply : ByteArray := prog_1_method_35_code
def yX9_multiply : MethodName := ⟨RX9, "multiply", "(LStairsNear$Poly;LStairsNear$Poly;)Z"⟩
abbrev cX9_oldestIdeal : ByteArray := prog_1_method_36_code
def yX9_oldestIdeal : MethodName := ⟨RX9, "oldestIdeal", "()LStairsNear$Ideal;"⟩
abbrev cX9_idealOf : ByteArray := prog_1_method_37_code
def yX9_idealOf : MethodName := ⟨RX9, "idealOf", "(I)LStairsNear$Ideal;"⟩
abbrev cX9_tellOfKind : ByteArray := prog_1_method_38_code
def yX9_tellOfKind : MethodName := ⟨RX9, "tellOfKind", "(IIIII)I"⟩
abbrev cX9_tellMono : ByteArray := prog_1_method_39_code
def yX9_tellMono : MethodName := ⟨RX9, "tellMono", "(II)I"⟩
def RX10 : String := "StairsNearModel"
def TX10 : u_T := fun k => match k with
  | 0 => ("StairsNearModel", "told", "I", false)
  | 1 => ("StairsNearModel", "variables", "I", false)
  | 2 => ("StairsNearModel", "prime", "I", false)
  | 3 => ("StairsNearModel", "weight", "[I", true)
  | 4 => ("StairsNearModel", "many", "[I", true)
  | 5 => ("StairsNearModel", "number", "[I", true)
  | 6 => ("StairsNearModel", "exponent", "[I", true)
  | 7 => ("StairsNearModel", "heapNumber", "[I", true)
  | 8 => ("StairsNearModel", "heapExponent", "[I", true)
  | 9 => ("StairsNearModel", "heaped", "I", false)
  | 10 => ("StairsNearModel", "tape", "[B", true)
  | 11 => ("StairsNearModel", "taped", "I", false)
  | 12 => ("StairsNearModel", "spot", "I", false)
  | 13 => ("StairsNearModel", "isFaulty", "Z", false)
  | 14 => ("StairsNearModel", "fault", "I", false)
  | 15 => ("StairsNearModel", "faultPlace", "I", false)
  | 16 => ("StairsNearModel", "product", "J", false)
  | 17 => ("StairsNearModel", "powers", "[I", true)
  | 18 => ("StairsNearModel", "out", "[I", true)
  | 19 => ("StairsNearModel", "outs", "I", false)
  | 20 => ("StairsNearModel", "isDivided", "Z", false)
  | 21 => ("StairsNearModel", "setThere", "I", false)
  | 22 => ("StairsNearModel", "slotThere", "I", false)
  | 23 => ("StairsNearModel", "firstMany", "I", false)
  | 24 => ("StairsNearModel", "thereMany", "I", false)
  | 25 => ("StairsNearModel", "stepMany", "I", false)
  | 26 => ("StairsNearModel", "stepTold", "[I", true)
  | 27 => ("StairsNearModel", "monomial", "[I", true)
  | 28 => ("StairsNearModel", "monomials", "I", false)
  | 29 => ("StairsNearModel", "basis", "[I", true)
  | 30 => ("StairsNearModel", "isLead", "[Z", true)
  | _ => ("StairsNearModel", "row", "[I", true)
def tyX10 : Nat → FieldType := fun k => match k with
  | 0 => .int
  | 1 => .int
  | 2 => .int
  | 3 => .array .int
  | 4 => .array .int
  | 5 => .array .int
  | 6 => .array .int
  | 7 => .array .int
  | 8 => .array .int
  | 9 => .int
  | 10 => .array .byte
  | 11 => .int
  | 12 => .int
  | 13 => .boolean
  | 14 => .int
  | 15 => .int
  | 16 => .long
  | 17 => .array .int
  | 18 => .array .int
  | 19 => .int
  | 20 => .boolean
  | 21 => .int
  | 22 => .int
  | 23 => .int
  | 24 => .int
  | 25 => .int
  | 26 => .array .int
  | 27 => .array .int
  | 28 => .int
  | 29 => .array .int
  | 30 => .array .boolean
  | _ => .array .int
abbrev wsX100 : List Cond := u_ws RX10 TX10 32
theorem nmX10 : ∀ a, a < 32 → ∀ b, b < 32 → a ≠ b → (TX10 a).2.1 ≠ (TX10 b).2.1 := by decide +kernel
theorem tyX10_ok : ∀ k, k < 32 → parseFieldDescriptor (TX10 k).2.2.1 = some (tyX10 k) := by decide +kernel
abbrev cX10_init : ByteArray := prog_12_method_1_code
def yX10_init : MethodName := ⟨RX10, "<init>", "()V"⟩
abbrev cX10_isIn : ByteArray := prog_12_method_3_code
def yX10_isIn : MethodName := ⟨RX10, "isIn", "(JJJ)Z"⟩
abbrev cX10_has : ByteArray := prog_12_method_4_code
def yX10_has : MethodName := ⟨RX10, "has", "(II)Z"⟩
abbrev cX10_modulo : ByteArray := prog_12_method_5_code
def yX10_modulo : MethodName := ⟨RX10, "modulo", "(J)I"⟩
abbrev cX10_turned : ByteArray := prog_12_method_6_code
def yX10_turned : MethodName := ⟨RX10, "turned", "(I)I"⟩
abbrev cX10_at : ByteArray := prog_12_method_7_code
def yX10_at : MethodName := ⟨RX10, "at", "(II)I"⟩
abbrev cX10_power : ByteArray := prog_12_method_8_code
def yX10_power : MethodName := ⟨RX10, "power", "(III)I"⟩
abbrev cX10_degreeOf : ByteArray := prog_12_method_9_code
def yX10_degreeOf : MethodName := ⟨RX10, "degreeOf", "(III)I"⟩
abbrev cX10_degree : ByteArray := prog_12_method_10_code
def yX10_degree : MethodName := ⟨RX10, "degree", "(II)I"⟩
abbrev cX10_compares : ByteArray := prog_12_method_11_code
def yX10_compares : MethodName := ⟨RX10, "compares", "(IIIIII)I"⟩
abbrev cX10_low : ByteArray := prog_12_method_12_code
def yX10_low : MethodName := ⟨RX10, "low", "(I)I"⟩
abbrev cX10_high : ByteArray := prog_12_method_13_code
def yX10_high : MethodName := ⟨RX10, "high", "(I)I"⟩
abbrev cX10_ecart : ByteArray := prog_12_method_14_code
def yX10_ecart : MethodName := ⟨RX10, "ecart", "(I)I"⟩
abbrev cX10_copies : ByteArray := prog_12_method_15_code
def yX10_copies : MethodName := ⟨RX10, "copies", "(II)V"⟩
abbrev cX10_heapCompares : ByteArray := prog_12_method_16_code
def yX10_heapCompares : MethodName := ⟨RX10, "heapCompares", "(IIII)I"⟩
abbrev cX10_heaps : ByteArray := prog_12_method_17_code
def yX10_heaps : MethodName := ⟨RX10, "heaps", "(IIII)V"⟩
abbrev cX10_heapsRow : ByteArray := prog_12_method_18_code
def yX10_heapsRow : MethodName := ⟨RX10, "heapsRow", "(IIIII)V"⟩
abbrev cX10_takes : ByteArray := prog_12_method_19_code
def yX10_takes : MethodName := ⟨RX10, "takes", "(I)Z"⟩
abbrev cX10_isSlot : ByteArray := prog_12_method_20_code
def yX10_isSlot : MethodName := ⟨RX10, "isSlot", "(I)Z"⟩
abbrev cX10_isPrime : ByteArray := prog_12_method_21_code
def yX10_isPrime : MethodName := ⟨RX10, "isPrime", "(I)Z"⟩
abbrev cX10_ring : ByteArray := prog_12_method_22_code
def yX10_ring : MethodName := ⟨RX10, "ring", "(II)Z"⟩
abbrev cX10_sorts : ByteArray := prog_12_method_23_code
def yX10_sorts : MethodName := ⟨RX10, "sorts", "(I)V"⟩
abbrev cX10_weights : ByteArray := prog_12_method_24_code
def yX10_weights : MethodName := ⟨RX10, "weights", "(III)Z"⟩
abbrev cX10_see : ByteArray := prog_12_method_25_code
def yX10_see : MethodName := ⟨RX10, "see", "(I)I"⟩
abbrev cX10_isDigit : ByteArray := prog_12_method_26_code
def yX10_isDigit : MethodName := ⟨RX10, "isDigit", "(I)Z"⟩
abbrev cX10_skips : ByteArray := prog_12_method_27_code
def yX10_skips : MethodName := ⟨RX10, "skips", "()V"⟩
abbrev cX10_faultyAt : ByteArray := prog_12_method_28_code
def yX10_faultyAt : MethodName := ⟨RX10, "faultyAt", "(II)V"⟩
abbrev cX10_variableHere : ByteArray := prog_12_method_29_code
def yX10_variableHere : MethodName := ⟨RX10, "variableHere", "()I"⟩
abbrev cX10_isFactor : ByteArray := prog_12_method_30_code
def yX10_isFactor : MethodName := ⟨RX10, "isFactor", "()Z"⟩
abbrev cX10_reads : ByteArray := prog_12_method_31_code
def yX10_reads : MethodName := ⟨RX10, "reads", "(I)I"⟩
abbrev cX10_readsFactor : ByteArray := prog_12_method_32_code
def yX10_readsFactor : MethodName := ⟨RX10, "readsFactor", "()V"⟩
abbrev cX10_readsTerm : ByteArray := prog_12_method_33_code
def yX10_readsTerm : MethodName := ⟨RX10, "readsTerm", "(Z)V"⟩
abbrev cX10_passes : ByteArray := prog_12_method_34_code
def yX10_passes : MethodName := ⟨RX10, "passes", "(I)Z"⟩
abbrev cX10_poly : ByteArray := prog_12_method_35_code
def yX10_poly : MethodName := ⟨RX10, "poly", "(I)I"⟩
abbrev cX10_fault : ByteArray := prog_12_method_36_code
def yX10_fault : MethodName := ⟨RX10, "fault", "(I)I"⟩
abbrev cX10_feed : ByteArray := prog_12_method_37_code
def yX10_feed : MethodName := ⟨RX10, "feed", "(IIIII)I"⟩
abbrev cX10_end : ByteArray := prog_12_method_38_code
def yX10_end : MethodName := ⟨RX10, "end", "(I)Z"⟩
abbrev cX10_says : ByteArray := prog_12_method_39_code
def yX10_says : MethodName := ⟨RX10, "says", "(I)V"⟩
abbrev cX10_saysNumber : ByteArray := prog_12_method_40_code
def yX10_saysNumber : MethodName := ⟨RX10, "saysNumber", "(I)V"⟩
abbrev cX10_saysTerm : ByteArray := prog_12_method_41_code
def yX10_saysTerm : MethodName := ⟨RX10, "saysTerm", "(II)V"⟩
abbrev cX10_show : ByteArray := prog_12_method_42_code
def yX10_show : MethodName := ⟨RX10, "show", "(I)I"⟩
abbrev cX10_out : ByteArray := prog_12_method_43_code
def yX10_out : MethodName := ⟨RX10, "out", "(I)I"⟩
abbrev cX10_term : ByteArray := prog_12_method_44_code
def yX10_term : MethodName := ⟨RX10, "term", "(III)I"⟩
abbrev cX10_isUnit : ByteArray := prog_12_method_45_code
def yX10_isUnit : MethodName := ⟨RX10, "isUnit", "(I)Z"⟩
abbrev cX10_shape : ByteArray := prog_12_method_46_code
def yX10_shape : MethodName := ⟨RX10, "shape", "(II)I"⟩
abbrev cX10_multiplies : ByteArray := prog_12_method_47_code
def yX10_multiplies : MethodName := ⟨RX10, "multiplies", "(II)V"⟩
abbrev cX10_make : ByteArray := prog_12_method_48_code
def yX10_make : MethodName := ⟨RX10, "make", "(IIII)I"⟩
abbrev cX10_heapsPart : ByteArray := prog_12_method_49_code
def yX10_heapsPart : MethodName := ⟨RX10, "heapsPart", "(II)V"⟩
abbrev cX10_heapsLow : ByteArray := prog_12_method_50_code
def yX10_heapsLow : MethodName := ⟨RX10, "heapsLow", "(I)V"⟩
abbrev cX10_part : ByteArray := prog_12_method_51_code
def yX10_part : MethodName := ⟨RX10, "part", "(III)I"⟩
abbrev cX10_rowOf : ByteArray := prog_12_method_52_code
def yX10_rowOf : MethodName := ⟨RX10, "rowOf", "(II)I"⟩
abbrev cX10_divides : ByteArray := prog_12_method_53_code
def yX10_divides : MethodName := ⟨RX10, "divides", "(II)Z"⟩
abbrev cX10_dividing : ByteArray := prog_12_method_54_code
def yX10_dividing : MethodName := ⟨RX10, "dividing", "(I)I"⟩
abbrev cX10_lessens : ByteArray := prog_12_method_55_code
def yX10_lessens : MethodName := ⟨RX10, "lessens", "(IIIII)Z"⟩
abbrev cX10_steps : ByteArray := prog_12_method_56_code
def yX10_steps : MethodName := ⟨RX10, "steps", "(I)Z"⟩
abbrev cX10_grows : ByteArray := prog_12_method_57_code
def yX10_grows : MethodName := ⟨RX10, "grows", "(III)Z"⟩
abbrev cX10_carries : ByteArray := prog_12_method_58_code
def yX10_carries : MethodName := ⟨RX10, "carries", "(III)Z"⟩
abbrev cX10_begins : ByteArray := prog_12_method_59_code
def yX10_begins : MethodName := ⟨RX10, "begins", "(II)V"⟩
abbrev cX10_weak : ByteArray := prog_12_method_60_code
def yX10_weak : MethodName := ⟨RX10, "weak", "(II)I"⟩
abbrev cX10_aheadOf : ByteArray := prog_12_method_61_code
def yX10_aheadOf : MethodName := ⟨RX10, "aheadOf", "(I)I"⟩
abbrev cX10_kept : ByteArray := prog_12_method_62_code
def yX10_kept : MethodName := ⟨RX10, "kept", "(II)I"⟩
abbrev cX10_step : ByteArray := prog_12_method_63_code
def yX10_step : MethodName := ⟨RX10, "step", "(II)I"⟩
abbrev cX10_bound : ByteArray := prog_12_method_64_code
def yX10_bound : MethodName := ⟨RX10, "bound", "()I"⟩
abbrev cX10_laysMonomials : ByteArray := prog_12_method_65_code
def yX10_laysMonomials : MethodName := ⟨RX10, "laysMonomials", "(I)V"⟩
abbrev cX10_degreeAt : ByteArray := prog_12_method_66_code
def yX10_degreeAt : MethodName := ⟨RX10, "degreeAt", "(I)I"⟩
abbrev cX10_placeOf : ByteArray := prog_12_method_67_code
def yX10_placeOf : MethodName := ⟨RX10, "placeOf", "(III)I"⟩
abbrev cX10_clearsRow : ByteArray := prog_12_method_68_code
def yX10_clearsRow : MethodName := ⟨RX10, "clearsRow", "()V"⟩
abbrev cX10_laysRow : ByteArray := prog_12_method_69_code
def yX10_laysRow : MethodName := ⟨RX10, "laysRow", "(IIII)V"⟩
abbrev cX10_reduces : ByteArray := prog_12_method_70_code
def yX10_reduces : MethodName := ⟨RX10, "reduces", "()V"⟩
abbrev cX10_addsRow : ByteArray := prog_12_method_71_code
def yX10_addsRow : MethodName := ⟨RX10, "addsRow", "()V"⟩
abbrev cX10_addsAll : ByteArray := prog_12_method_72_code
def yX10_addsAll : MethodName := ⟨RX10, "addsAll", "(I)V"⟩
abbrev cX10_beginsIdeal : ByteArray := prog_12_method_73_code
def yX10_beginsIdeal : MethodName := ⟨RX10, "beginsIdeal", "(I)V"⟩
abbrev cX10_laysIdeal : ByteArray := prog_12_method_74_code
def yX10_laysIdeal : MethodName := ⟨RX10, "laysIdeal", "(II)V"⟩
abbrev cX10_canAsk : ByteArray := prog_12_method_75_code
def yX10_canAsk : MethodName := ⟨RX10, "canAsk", "(II)Z"⟩
abbrev cX10_isDivider : ByteArray := prog_12_method_76_code
def yX10_isDivider : MethodName := ⟨RX10, "isDivider", "(II)Z"⟩
abbrev cX10_isCorner : ByteArray := prog_12_method_77_code
def yX10_isCorner : MethodName := ⟨RX10, "isCorner", "(I)Z"⟩
abbrev cX10_found : ByteArray := prog_12_method_78_code
def yX10_found : MethodName := ⟨RX10, "found", "(ZI)I"⟩
abbrev cX10_ofMonomial : ByteArray := prog_12_method_79_code
def yX10_ofMonomial : MethodName := ⟨RX10, "ofMonomial", "(II)I"⟩
abbrev cX10_corners : ByteArray := prog_12_method_80_code
def yX10_corners : MethodName := ⟨RX10, "corners", "(II)I"⟩
abbrev cX10_corner : ByteArray := prog_12_method_81_code
def yX10_corner : MethodName := ⟨RX10, "corner", "(IIII)I"⟩
abbrev cX10_stairs : ByteArray := prog_12_method_82_code
def yX10_stairs : MethodName := ⟨RX10, "stairs", "(III)I"⟩
abbrev cX10_stair : ByteArray := prog_12_method_83_code
def yX10_stair : MethodName := ⟨RX10, "stair", "(IIII)I"⟩
abbrev cX10_rest : ByteArray := prog_12_method_84_code
def yX10_rest : MethodName := ⟨RX10, "rest", "(IIII)I"⟩
abbrev cX10_greatestWeight : ByteArray := prog_12_method_85_code
def yX10_greatestWeight : MethodName := ⟨RX10, "greatestWeight", "()I"⟩
abbrev cX10_isSettled : ByteArray := prog_12_method_86_code
def yX10_isSettled : MethodName := ⟨RX10, "isSettled", "(I)Z"⟩
abbrev cX10_length : ByteArray := prog_12_method_87_code
def yX10_length : MethodName := ⟨RX10, "length", "(II)I"⟩
abbrev cX10_number : ByteArray := prog_12_method_88_code
def yX10_number : MethodName := ⟨RX10, "number", "(II)I"⟩
abbrev cX10_allOf : ByteArray := prog_12_method_89_code
def yX10_allOf : MethodName := ⟨RX10, "allOf", "(I)I"⟩
abbrev cX10_all : ByteArray := prog_12_method_90_code
def yX10_all : MethodName := ⟨RX10, "all", "(II)I"⟩
abbrev cX10_notNought : ByteArray := prog_12_method_91_code
def yX10_notNought : MethodName := ⟨RX10, "notNought", "()I"⟩
abbrev cX10_look : ByteArray := prog_12_method_92_code
def yX10_look : MethodName := ⟨RX10, "look", "(I)I"⟩
def RJ9 : String := "java/lang/Math"
def TJ9 : u_T := fun k => match k with
  | _ => ("", "", "", false)
def tyJ9 : Nat → FieldType := fun k => match k with
  | _ => .int
abbrev wsJ90 : List Cond := u_ws RJ9 TJ9 0
theorem nmJ9 : ∀ a, a < 0 → ∀ b, b < 0 → a ≠ b → (TJ9 a).2.1 ≠ (TJ9 b).2.1 := by decide +kernel
theorem tyJ9_ok : ∀ k, k < 0 → parseFieldDescriptor (TJ9 k).2.2.1 = some (tyJ9 k) := by decide +kernel
abbrev cJ9_max_7cf53 : ByteArray := prog_13_method_65_code
def yJ9_max_7cf53 : MethodName := ⟨RJ9, "max", "(II)I"⟩
abbrev cJ9_min_7cf53 : ByteArray := prog_13_method_69_code
def yJ9_min_7cf53 : MethodName := ⟨RJ9, "min", "(II)I"⟩
def RJ10 : String := "java/lang/System"
def TJ10 : u_T := fun k => match k with
  | _ => ("", "", "", false)
def tyJ10 : Nat → FieldType := fun k => match k with
  | _ => .int
abbrev wsJ100 : List Cond := u_ws RJ10 TJ10 0
theorem nmJ10 : ∀ a, a < 0 → ∀ b, b < 0 → a ≠ b → (TJ10 a).2.1 ≠ (TJ10 b).2.1 := by decide +kernel
theorem tyJ10_ok : ∀ k, k < 0 → parseFieldDescriptor (TJ10 k).2.2.1 = some (tyJ10 k) := by decide +kernel
def RJ7 : String := "java/util/Arrays"
def TJ7 : u_T := fun k => match k with
  | _ => ("", "", "", false)
def tyJ7 : Nat → FieldType := fun k => match k with
  | _ => .int
abbrev wsJ70 : List Cond := u_ws RJ7 TJ7 0
theorem nmJ7 : ∀ a, a < 0 → ∀ b, b < 0 → a ≠ b → (TJ7 a).2.1 ≠ (TJ7 b).2.1 := by decide +kernel
theorem tyJ7_ok : ∀ k, k < 0 → parseFieldDescriptor (TJ7 k).2.2.1 = some (tyJ7 k) := by decide +kernel
abbrev cJ7_fill_53178 : ByteArray := prog_15_method_103_code
def yJ7_fill_53178 : MethodName := ⟨RJ7, "fill", "([II)V"⟩
def RL : String := "StairsNearLaw"
abbrev cL_law : ByteArray := code
def yL_law : MethodName := ⟨RL, "law", "([I)Z"⟩
abbrev vwCl : List vw_C := [(RX0, TX0, 9), (RX1, TX1, 3), (RX2, TX2, 4), (RX4, TX4, 1), (RX5, TX5, 3), (RX6, TX6, 7), (RX7, TX7, 8), (RX8, TX8, 2), (RX9, TX9, 11), (RX10, TX10, 32)]
