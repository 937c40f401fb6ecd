section
-- ===== PART A: goes FIRST, ahead of the names: the tables' words, and 'selects' of the private methods out of them =====
/-- a private method of a class that the tables say can be made, by its rows of tables_1 -/
def lw_okq (q : MethodName × Nat) : Prop := (q.1.cls ≠ "java/lang/invoke/MethodHandle" ∧ q.1.cls ≠ "java/lang/invoke/VarHandle") ∧ Cond.instantiable q.1.cls q.2 ∈ tables_1 ∧ Cond.privateMethod q.1 ∈ tables_1 ∧ Cond.instanceMethod q.1 ∈ tables_1
theorem lw_p0 : lw_okq (⟨"QuarterBoards", "appendBytes", "(I)V"⟩, 17) := ⟨⟨by decide +kernel, by decide +kernel⟩, List.mem_of_getElem? (i := 23) (by decide +kernel), List.mem_of_getElem? (i := 486) (by decide +kernel), List.mem_of_getElem? (i := 487) (by decide +kernel)⟩
theorem lw_p1 : lw_okq (⟨"QuarterBoards$Tokens", "scanLetters", "([BII)I"⟩, 8) := ⟨⟨by decide +kernel, by decide +kernel⟩, List.mem_of_getElem? (i := 33) (by decide +kernel), List.mem_of_getElem? (i := 511) (by decide +kernel), List.mem_of_getElem? (i := 512) (by decide +kernel)⟩
theorem lw_p2 : lw_okq (⟨"QuarterBoards$Tokens", "kindOfWord", "(J)I"⟩, 8) := ⟨⟨by decide +kernel, by decide +kernel⟩, List.mem_of_getElem? (i := 33) (by decide +kernel), List.mem_of_getElem? (i := 515) (by decide +kernel), List.mem_of_getElem? (i := 516) (by decide +kernel)⟩
theorem lw_p3 : lw_okq (⟨"QuarterBoards$Tokens", "add", "(IIJ)V"⟩, 8) := ⟨⟨by decide +kernel, by decide +kernel⟩, List.mem_of_getElem? (i := 33) (by decide +kernel), List.mem_of_getElem? (i := 519) (by decide +kernel), List.mem_of_getElem? (i := 520) (by decide +kernel)⟩
theorem lw_p4 : lw_okq (⟨"QuarterBoards$Tokens", "scanDigits", "([BII)I"⟩, 8) := ⟨⟨by decide +kernel, by decide +kernel⟩, List.mem_of_getElem? (i := 33) (by decide +kernel), List.mem_of_getElem? (i := 526) (by decide +kernel), List.mem_of_getElem? (i := 527) (by decide +kernel)⟩
theorem lw_p5 : lw_okq (⟨"QuarterBoards$Syntax", "next", "(I)I"⟩, 5) := ⟨⟨by decide +kernel, by decide +kernel⟩, List.mem_of_getElem? (i := 117) (by decide +kernel), List.mem_of_getElem? (i := 605) (by decide +kernel), List.mem_of_getElem? (i := 606) (by decide +kernel)⟩
theorem lw_p6 : lw_okq (⟨"QuarterBoards$Syntax", "behindTelling", "(I)I"⟩, 5) := ⟨⟨by decide +kernel, by decide +kernel⟩, List.mem_of_getElem? (i := 117) (by decide +kernel), List.mem_of_getElem? (i := 609) (by decide +kernel), List.mem_of_getElem? (i := 610) (by decide +kernel)⟩
theorem lw_p7 : lw_okq (⟨"QuarterBoards$Syntax", "inPart", "(I)I"⟩, 5) := ⟨⟨by decide +kernel, by decide +kernel⟩, List.mem_of_getElem? (i := 117) (by decide +kernel), List.mem_of_getElem? (i := 613) (by decide +kernel), List.mem_of_getElem? (i := 614) (by decide +kernel)⟩
theorem lw_p8 : lw_okq (⟨"QuarterBoards$Syntax", "behindShiftNumber", "(I)I"⟩, 5) := ⟨⟨by decide +kernel, by decide +kernel⟩, List.mem_of_getElem? (i := 117) (by decide +kernel), List.mem_of_getElem? (i := 617) (by decide +kernel), List.mem_of_getElem? (i := 618) (by decide +kernel)⟩
theorem lw_p9 : lw_okq (⟨"QuarterBoards$Syntax", "behindUnitNumber", "(I)I"⟩, 5) := ⟨⟨by decide +kernel, by decide +kernel⟩, List.mem_of_getElem? (i := 117) (by decide +kernel), List.mem_of_getElem? (i := 621) (by decide +kernel), List.mem_of_getElem? (i := 622) (by decide +kernel)⟩
theorem lw_p10 : lw_okq (⟨"QuarterBoards$Syntax", "behindUnit", "(I)I"⟩, 5) := ⟨⟨by decide +kernel, by decide +kernel⟩, List.mem_of_getElem? (i := 117) (by decide +kernel), List.mem_of_getElem? (i := 625) (by decide +kernel), List.mem_of_getElem? (i := 626) (by decide +kernel)⟩
theorem lw_p11 : lw_okq (⟨"QuarterBoards$Syntax", "lacksRoom", "()Z"⟩, 5) := ⟨⟨by decide +kernel, by decide +kernel⟩, List.mem_of_getElem? (i := 117) (by decide +kernel), List.mem_of_getElem? (i := 637) (by decide +kernel), List.mem_of_getElem? (i := 638) (by decide +kernel)⟩
theorem lw_p12 : lw_okq (⟨"QuarterBoards$Meaning", "faultAt", "(LQuarterBoards$Tokens;I)I"⟩, 7) := ⟨⟨by decide +kernel, by decide +kernel⟩, List.mem_of_getElem? (i := 139) (by decide +kernel), List.mem_of_getElem? (i := 645) (by decide +kernel), List.mem_of_getElem? (i := 646) (by decide +kernel)⟩
theorem lw_p13 : lw_okq (⟨"QuarterBoards$Meaning", "openNameFault", "(J)I"⟩, 7) := ⟨⟨by decide +kernel, by decide +kernel⟩, List.mem_of_getElem? (i := 139) (by decide +kernel), List.mem_of_getElem? (i := 657) (by decide +kernel), List.mem_of_getElem? (i := 658) (by decide +kernel)⟩
theorem lw_p14 : lw_okq (⟨"QuarterBoards$Meaning", "isTold", "(J)Z"⟩, 7) := ⟨⟨by decide +kernel, by decide +kernel⟩, List.mem_of_getElem? (i := 139) (by decide +kernel), List.mem_of_getElem? (i := 661) (by decide +kernel), List.mem_of_getElem? (i := 662) (by decide +kernel)⟩
theorem lw_p15 : lw_okq (⟨"QuarterBoards$Meaning", "usedNameFault", "(J)I"⟩, 7) := ⟨⟨by decide +kernel, by decide +kernel⟩, List.mem_of_getElem? (i := 139) (by decide +kernel), List.mem_of_getElem? (i := 665) (by decide +kernel), List.mem_of_getElem? (i := 666) (by decide +kernel)⟩
def lw_privs_1 : List (MethodName × Nat) := [(⟨"QuarterBoards", "appendBytes", "(I)V"⟩, 17), (⟨"QuarterBoards$Tokens", "scanLetters", "([BII)I"⟩, 8), (⟨"QuarterBoards$Tokens", "kindOfWord", "(J)I"⟩, 8), (⟨"QuarterBoards$Tokens", "add", "(IIJ)V"⟩, 8), (⟨"QuarterBoards$Tokens", "scanDigits", "([BII)I"⟩, 8), (⟨"QuarterBoards$Syntax", "next", "(I)I"⟩, 5), (⟨"QuarterBoards$Syntax", "behindTelling", "(I)I"⟩, 5), (⟨"QuarterBoards$Syntax", "inPart", "(I)I"⟩, 5), (⟨"QuarterBoards$Syntax", "behindShiftNumber", "(I)I"⟩, 5), (⟨"QuarterBoards$Syntax", "behindUnitNumber", "(I)I"⟩, 5), (⟨"QuarterBoards$Syntax", "behindUnit", "(I)I"⟩, 5), (⟨"QuarterBoards$Syntax", "lacksRoom", "()Z"⟩, 5), (⟨"QuarterBoards$Meaning", "faultAt", "(LQuarterBoards$Tokens;I)I"⟩, 7), (⟨"QuarterBoards$Meaning", "openNameFault", "(J)I"⟩, 7), (⟨"QuarterBoards$Meaning", "isTold", "(J)Z"⟩, 7), (⟨"QuarterBoards$Meaning", "usedNameFault", "(J)I"⟩, 7)]
theorem lw_r1 : ∀ q ∈ lw_privs_1, lw_okq q := List.forall_mem_cons.mpr ⟨lw_p0, List.forall_mem_cons.mpr ⟨lw_p1, List.forall_mem_cons.mpr ⟨lw_p2, List.forall_mem_cons.mpr ⟨lw_p3, List.forall_mem_cons.mpr ⟨lw_p4, List.forall_mem_cons.mpr ⟨lw_p5, List.forall_mem_cons.mpr ⟨lw_p6, List.forall_mem_cons.mpr ⟨lw_p7, List.forall_mem_cons.mpr ⟨lw_p8, List.forall_mem_cons.mpr ⟨lw_p9, List.forall_mem_cons.mpr ⟨lw_p10, List.forall_mem_cons.mpr ⟨lw_p11, List.forall_mem_cons.mpr ⟨lw_p12, List.forall_mem_cons.mpr ⟨lw_p13, List.forall_mem_cons.mpr ⟨lw_p14, List.forall_mem_cons.mpr ⟨lw_p15, fun _ h => absurd h List.not_mem_nil⟩⟩⟩⟩⟩⟩⟩⟩⟩⟩⟩⟩⟩⟩⟩⟩
theorem lw_p16 : lw_okq (⟨"QuarterBoards$Meaning", "numberFault", "(I)I"⟩, 7) := ⟨⟨by decide +kernel, by decide +kernel⟩, List.mem_of_getElem? (i := 139) (by decide +kernel), List.mem_of_getElem? (i := 669) (by decide +kernel), List.mem_of_getElem? (i := 670) (by decide +kernel)⟩
theorem lw_p17 : lw_okq (⟨"QuarterBoards$Meaning", "leastNumber", "(I)I"⟩, 7) := ⟨⟨by decide +kernel, by decide +kernel⟩, List.mem_of_getElem? (i := 139) (by decide +kernel), List.mem_of_getElem? (i := 673) (by decide +kernel), List.mem_of_getElem? (i := 674) (by decide +kernel)⟩
theorem lw_p18 : lw_okq (⟨"QuarterBoards$Meaning", "mostNumber", "(I)I"⟩, 7) := ⟨⟨by decide +kernel, by decide +kernel⟩, List.mem_of_getElem? (i := 139) (by decide +kernel), List.mem_of_getElem? (i := 677) (by decide +kernel), List.mem_of_getElem? (i := 678) (by decide +kernel)⟩
theorem lw_p19 : lw_okq (⟨"QuarterBoards$Meaning", "closeName", "()V"⟩, 7) := ⟨⟨by decide +kernel, by decide +kernel⟩, List.mem_of_getElem? (i := 139) (by decide +kernel), List.mem_of_getElem? (i := 681) (by decide +kernel), List.mem_of_getElem? (i := 682) (by decide +kernel)⟩
theorem lw_p20 : lw_okq (⟨"QuarterBoards$Builder", "sumUp", "(I)V"⟩, 11) := ⟨⟨by decide +kernel, by decide +kernel⟩, List.mem_of_getElem? (i := 167) (by decide +kernel), List.mem_of_getElem? (i := 692) (by decide +kernel), List.mem_of_getElem? (i := 693) (by decide +kernel)⟩
theorem lw_p21 : lw_okq (⟨"QuarterBoards$Builder", "makePart", "(I)V"⟩, 11) := ⟨⟨by decide +kernel, by decide +kernel⟩, List.mem_of_getElem? (i := 167) (by decide +kernel), List.mem_of_getElem? (i := 696) (by decide +kernel), List.mem_of_getElem? (i := 697) (by decide +kernel)⟩
theorem lw_p22 : lw_okq (⟨"QuarterBoards$Builder", "openWord", "()V"⟩, 11) := ⟨⟨by decide +kernel, by decide +kernel⟩, List.mem_of_getElem? (i := 167) (by decide +kernel), List.mem_of_getElem? (i := 703) (by decide +kernel), List.mem_of_getElem? (i := 704) (by decide +kernel)⟩
theorem lw_p23 : lw_okq (⟨"QuarterBoards$Builder", "behindNumber", "(I)I"⟩, 11) := ⟨⟨by decide +kernel, by decide +kernel⟩, List.mem_of_getElem? (i := 167) (by decide +kernel), List.mem_of_getElem? (i := 707) (by decide +kernel), List.mem_of_getElem? (i := 708) (by decide +kernel)⟩
theorem lw_p24 : lw_okq (⟨"QuarterBoards$Builder", "makeUnit", "(I)V"⟩, 11) := ⟨⟨by decide +kernel, by decide +kernel⟩, List.mem_of_getElem? (i := 167) (by decide +kernel), List.mem_of_getElem? (i := 711) (by decide +kernel), List.mem_of_getElem? (i := 712) (by decide +kernel)⟩
theorem lw_p25 : lw_okq (⟨"QuarterBoards$Builder", "copyNamed", "(LQuarterBoards$Shape;J)V"⟩, 11) := ⟨⟨by decide +kernel, by decide +kernel⟩, List.mem_of_getElem? (i := 167) (by decide +kernel), List.mem_of_getElem? (i := 719) (by decide +kernel), List.mem_of_getElem? (i := 720) (by decide +kernel)⟩
theorem lw_p26 : lw_okq (⟨"QuarterBoards$Builder", "makeCells", "(LQuarterBoards$Shape;I)V"⟩, 11) := ⟨⟨by decide +kernel, by decide +kernel⟩, List.mem_of_getElem? (i := 167) (by decide +kernel), List.mem_of_getElem? (i := 727) (by decide +kernel), List.mem_of_getElem? (i := 728) (by decide +kernel)⟩
theorem lw_p27 : lw_okq (⟨"QuarterBoards$Builder", "numberAt", "(I)I"⟩, 11) := ⟨⟨by decide +kernel, by decide +kernel⟩, List.mem_of_getElem? (i := 167) (by decide +kernel), List.mem_of_getElem? (i := 731) (by decide +kernel), List.mem_of_getElem? (i := 732) (by decide +kernel)⟩
theorem lw_p28 : lw_okq (⟨"QuarterBoards$Builder", "doWord", "(ILQuarterBoards$Shape;)V"⟩, 11) := ⟨⟨by decide +kernel, by decide +kernel⟩, List.mem_of_getElem? (i := 167) (by decide +kernel), List.mem_of_getElem? (i := 742) (by decide +kernel), List.mem_of_getElem? (i := 743) (by decide +kernel)⟩
theorem lw_p29 : lw_okq (⟨"QuarterBoards$Shape", "columns", "()I"⟩, 1) := ⟨⟨by decide +kernel, by decide +kernel⟩, List.mem_of_getElem? (i := 174) (by decide +kernel), List.mem_of_getElem? (i := 768) (by decide +kernel), List.mem_of_getElem? (i := 769) (by decide +kernel)⟩
theorem lw_p30 : lw_okq (⟨"QuarterBoards", "takeOver", "()V"⟩, 17) := ⟨⟨by decide +kernel, by decide +kernel⟩, List.mem_of_getElem? (i := 23) (by decide +kernel), List.mem_of_getElem? (i := 819) (by decide +kernel), List.mem_of_getElem? (i := 820) (by decide +kernel)⟩
theorem lw_p31 : lw_okq (⟨"QuarterBoards$Form", "makeImage", "(I)V"⟩, 7) := ⟨⟨by decide +kernel, by decide +kernel⟩, List.mem_of_getElem? (i := 297) (by decide +kernel), List.mem_of_getElem? (i := 838) (by decide +kernel), List.mem_of_getElem? (i := 839) (by decide +kernel)⟩
def lw_privs_2 : List (MethodName × Nat) := [(⟨"QuarterBoards$Meaning", "numberFault", "(I)I"⟩, 7), (⟨"QuarterBoards$Meaning", "leastNumber", "(I)I"⟩, 7), (⟨"QuarterBoards$Meaning", "mostNumber", "(I)I"⟩, 7), (⟨"QuarterBoards$Meaning", "closeName", "()V"⟩, 7), (⟨"QuarterBoards$Builder", "sumUp", "(I)V"⟩, 11), (⟨"QuarterBoards$Builder", "makePart", "(I)V"⟩, 11), (⟨"QuarterBoards$Builder", "openWord", "()V"⟩, 11), (⟨"QuarterBoards$Builder", "behindNumber", "(I)I"⟩, 11), (⟨"QuarterBoards$Builder", "makeUnit", "(I)V"⟩, 11), (⟨"QuarterBoards$Builder", "copyNamed", "(LQuarterBoards$Shape;J)V"⟩, 11), (⟨"QuarterBoards$Builder", "makeCells", "(LQuarterBoards$Shape;I)V"⟩, 11), (⟨"QuarterBoards$Builder", "numberAt", "(I)I"⟩, 11), (⟨"QuarterBoards$Builder", "doWord", "(ILQuarterBoards$Shape;)V"⟩, 11), (⟨"QuarterBoards$Shape", "columns", "()I"⟩, 1), (⟨"QuarterBoards", "takeOver", "()V"⟩, 17), (⟨"QuarterBoards$Form", "makeImage", "(I)V"⟩, 7)]
theorem lw_r2 : ∀ q ∈ lw_privs_2, lw_okq q := List.forall_mem_cons.mpr ⟨lw_p16, List.forall_mem_cons.mpr ⟨lw_p17, List.forall_mem_cons.mpr ⟨lw_p18, List.forall_mem_cons.mpr ⟨lw_p19, List.forall_mem_cons.mpr ⟨lw_p20, List.forall_mem_cons.mpr ⟨lw_p21, List.forall_mem_cons.mpr ⟨lw_p22, List.forall_mem_cons.mpr ⟨lw_p23, List.forall_mem_cons.mpr ⟨lw_p24, List.forall_mem_cons.mpr ⟨lw_p25, List.forall_mem_cons.mpr ⟨lw_p26, List.forall_mem_cons.mpr ⟨lw_p27, List.forall_mem_cons.mpr ⟨lw_p28, List.forall_mem_cons.mpr ⟨lw_p29, List.forall_mem_cons.mpr ⟨lw_p30, List.forall_mem_cons.mpr ⟨lw_p31, fun _ h => absurd h List.not_mem_nil⟩⟩⟩⟩⟩⟩⟩⟩⟩⟩⟩⟩⟩⟩⟩⟩
theorem lw_p32 : lw_okq (⟨"QuarterBoards", "formOf", "(ZI)LQuarterBoards$Form;"⟩, 17) := ⟨⟨by decide +kernel, by decide +kernel⟩, List.mem_of_getElem? (i := 23) (by decide +kernel), List.mem_of_getElem? (i := 888) (by decide +kernel), List.mem_of_getElem? (i := 889) (by decide +kernel)⟩
theorem lw_p33 : lw_okq (⟨"QuarterBoards$Measure", "takePiece", "(I)V"⟩, 3) := ⟨⟨by decide +kernel, by decide +kernel⟩, List.mem_of_getElem? (i := 223) (by decide +kernel), List.mem_of_getElem? (i := 913) (by decide +kernel), List.mem_of_getElem? (i := 914) (by decide +kernel)⟩
theorem lw_p34 : lw_okq (⟨"QuarterBoards$Measure", "takeOpen", "(I)V"⟩, 3) := ⟨⟨by decide +kernel, by decide +kernel⟩, List.mem_of_getElem? (i := 223) (by decide +kernel), List.mem_of_getElem? (i := 917) (by decide +kernel), List.mem_of_getElem? (i := 918) (by decide +kernel)⟩
theorem lw_p35 : lw_okq (⟨"QuarterBoards", "isSet", "(I)Z"⟩, 17) := ⟨⟨by decide +kernel, by decide +kernel⟩, List.mem_of_getElem? (i := 23) (by decide +kernel), List.mem_of_getElem? (i := 998) (by decide +kernel), List.mem_of_getElem? (i := 999) (by decide +kernel)⟩
theorem lw_p36 : lw_okq (⟨"QuarterBoards$Filler", "look", "(LQuarterBoards$Form;IZ)V"⟩, 12) := ⟨⟨by decide +kernel, by decide +kernel⟩, List.mem_of_getElem? (i := 241) (by decide +kernel), List.mem_of_getElem? (i := 1006) (by decide +kernel), List.mem_of_getElem? (i := 1007) (by decide +kernel)⟩
theorem lw_p37 : lw_okq (⟨"QuarterBoards$Filler", "areaOf", "(I)I"⟩, 12) := ⟨⟨by decide +kernel, by decide +kernel⟩, List.mem_of_getElem? (i := 241) (by decide +kernel), List.mem_of_getElem? (i := 1010) (by decide +kernel), List.mem_of_getElem? (i := 1011) (by decide +kernel)⟩
theorem lw_p38 : lw_okq (⟨"QuarterBoards$Filler", "search", "(II)V"⟩, 12) := ⟨⟨by decide +kernel, by decide +kernel⟩, List.mem_of_getElem? (i := 241) (by decide +kernel), List.mem_of_getElem? (i := 1015) (by decide +kernel), List.mem_of_getElem? (i := 1016) (by decide +kernel)⟩
theorem lw_p39 : lw_okq (⟨"QuarterBoards$Filler", "countWay", "()V"⟩, 12) := ⟨⟨by decide +kernel, by decide +kernel⟩, List.mem_of_getElem? (i := 241) (by decide +kernel), List.mem_of_getElem? (i := 1020) (by decide +kernel), List.mem_of_getElem? (i := 1021) (by decide +kernel)⟩
theorem lw_p40 : lw_okq (⟨"QuarterBoards$Filler", "isOver", "()Z"⟩, 12) := ⟨⟨by decide +kernel, by decide +kernel⟩, List.mem_of_getElem? (i := 241) (by decide +kernel), List.mem_of_getElem? (i := 1027) (by decide +kernel), List.mem_of_getElem? (i := 1028) (by decide +kernel)⟩
theorem lw_p41 : lw_okq (⟨"QuarterBoards$Filler", "tryBoard", "(IIII)V"⟩, 12) := ⟨⟨by decide +kernel, by decide +kernel⟩, List.mem_of_getElem? (i := 241) (by decide +kernel), List.mem_of_getElem? (i := 1031) (by decide +kernel), List.mem_of_getElem? (i := 1032) (by decide +kernel)⟩
theorem lw_p42 : lw_okq (⟨"QuarterBoards$Filler", "fits", "(LQuarterBoards$Shape;III)Z"⟩, 12) := ⟨⟨by decide +kernel, by decide +kernel⟩, List.mem_of_getElem? (i := 241) (by decide +kernel), List.mem_of_getElem? (i := 1040) (by decide +kernel), List.mem_of_getElem? (i := 1041) (by decide +kernel)⟩
theorem lw_p43 : lw_okq (⟨"QuarterBoards$Filler", "change", "(LQuarterBoards$Shape;III)V"⟩, 12) := ⟨⟨by decide +kernel, by decide +kernel⟩, List.mem_of_getElem? (i := 241) (by decide +kernel), List.mem_of_getElem? (i := 1048) (by decide +kernel), List.mem_of_getElem? (i := 1049) (by decide +kernel)⟩
theorem lw_p44 : lw_okq (⟨"QuarterBoards$Filler", "lookForSets", "([ILQuarterBoards$Form;I)I"⟩, 12) := ⟨⟨by decide +kernel, by decide +kernel⟩, List.mem_of_getElem? (i := 241) (by decide +kernel), List.mem_of_getElem? (i := 1075) (by decide +kernel), List.mem_of_getElem? (i := 1076) (by decide +kernel)⟩
theorem lw_p45 : lw_okq (⟨"QuarterBoards$Filler", "doesFill", "(II)Z"⟩, 12) := ⟨⟨by decide +kernel, by decide +kernel⟩, List.mem_of_getElem? (i := 241) (by decide +kernel), List.mem_of_getElem? (i := 1087) (by decide +kernel), List.mem_of_getElem? (i := 1088) (by decide +kernel)⟩
theorem lw_p46 : lw_okq (⟨"QuarterBoards$Cutter", "remember", "(IIII)I"⟩, 10) := ⟨⟨by decide +kernel, by decide +kernel⟩, List.mem_of_getElem? (i := 289) (by decide +kernel), List.mem_of_getElem? (i := 1110) (by decide +kernel), List.mem_of_getElem? (i := 1111) (by decide +kernel)⟩
theorem lw_p47 : lw_okq (⟨"QuarterBoards$Cutter", "lookWith", "(LQuarterBoards$Shape;ILQuarterBoards$Measure;)Z"⟩, 10) := ⟨⟨by decide +kernel, by decide +kernel⟩, List.mem_of_getElem? (i := 289) (by decide +kernel), List.mem_of_getElem? (i := 1114) (by decide +kernel), List.mem_of_getElem? (i := 1115) (by decide +kernel)⟩
def lw_privs_3 : List (MethodName × Nat) := [(⟨"QuarterBoards", "formOf", "(ZI)LQuarterBoards$Form;"⟩, 17), (⟨"QuarterBoards$Measure", "takePiece", "(I)V"⟩, 3), (⟨"QuarterBoards$Measure", "takeOpen", "(I)V"⟩, 3), (⟨"QuarterBoards", "isSet", "(I)Z"⟩, 17), (⟨"QuarterBoards$Filler", "look", "(LQuarterBoards$Form;IZ)V"⟩, 12), (⟨"QuarterBoards$Filler", "areaOf", "(I)I"⟩, 12), (⟨"QuarterBoards$Filler", "search", "(II)V"⟩, 12), (⟨"QuarterBoards$Filler", "countWay", "()V"⟩, 12), (⟨"QuarterBoards$Filler", "isOver", "()Z"⟩, 12), (⟨"QuarterBoards$Filler", "tryBoard", "(IIII)V"⟩, 12), (⟨"QuarterBoards$Filler", "fits", "(LQuarterBoards$Shape;III)Z"⟩, 12), (⟨"QuarterBoards$Filler", "change", "(LQuarterBoards$Shape;III)V"⟩, 12), (⟨"QuarterBoards$Filler", "lookForSets", "([ILQuarterBoards$Form;I)I"⟩, 12), (⟨"QuarterBoards$Filler", "doesFill", "(II)Z"⟩, 12), (⟨"QuarterBoards$Cutter", "remember", "(IIII)I"⟩, 10), (⟨"QuarterBoards$Cutter", "lookWith", "(LQuarterBoards$Shape;ILQuarterBoards$Measure;)Z"⟩, 10)]
theorem lw_r3 : ∀ q ∈ lw_privs_3, lw_okq q := List.forall_mem_cons.mpr ⟨lw_p32, List.forall_mem_cons.mpr ⟨lw_p33, List.forall_mem_cons.mpr ⟨lw_p34, List.forall_mem_cons.mpr ⟨lw_p35, List.forall_mem_cons.mpr ⟨lw_p36, List.forall_mem_cons.mpr ⟨lw_p37, List.forall_mem_cons.mpr ⟨lw_p38, List.forall_mem_cons.mpr ⟨lw_p39, List.forall_mem_cons.mpr ⟨lw_p40, List.forall_mem_cons.mpr ⟨lw_p41, List.forall_mem_cons.mpr ⟨lw_p42, List.forall_mem_cons.mpr ⟨lw_p43, List.forall_mem_cons.mpr ⟨lw_p44, List.forall_mem_cons.mpr ⟨lw_p45, List.forall_mem_cons.mpr ⟨lw_p46, List.forall_mem_cons.mpr ⟨lw_p47, fun _ h => absurd h List.not_mem_nil⟩⟩⟩⟩⟩⟩⟩⟩⟩⟩⟩⟩⟩⟩⟩⟩
theorem lw_p48 : lw_okq (⟨"QuarterBoards$Cutter", "cuts", "(LQuarterBoards$Shape;IILQuarterBoards$Measure;)Z"⟩, 10) := ⟨⟨by decide +kernel, by decide +kernel⟩, List.mem_of_getElem? (i := 289) (by decide +kernel), List.mem_of_getElem? (i := 1118) (by decide +kernel), List.mem_of_getElem? (i := 1119) (by decide +kernel)⟩
theorem lw_p49 : lw_okq (⟨"QuarterBoards$Cutter", "haveLikeSides", "()Z"⟩, 10) := ⟨⟨by decide +kernel, by decide +kernel⟩, List.mem_of_getElem? (i := 289) (by decide +kernel), List.mem_of_getElem? (i := 1126) (by decide +kernel), List.mem_of_getElem? (i := 1127) (by decide +kernel)⟩
theorem lw_p50 : lw_okq (⟨"QuarterBoards$Table", "boardsLaid", "()I"⟩, 5) := ⟨⟨by decide +kernel, by decide +kernel⟩, List.mem_of_getElem? (i := 372) (by decide +kernel), List.mem_of_getElem? (i := 1173) (by decide +kernel), List.mem_of_getElem? (i := 1174) (by decide +kernel)⟩
theorem lw_p51 : lw_okq (⟨"QuarterBoards$Book", "areSame", "(II)Z"⟩, 7) := ⟨⟨by decide +kernel, by decide +kernel⟩, List.mem_of_getElem? (i := 396) (by decide +kernel), List.mem_of_getElem? (i := 1263) (by decide +kernel), List.mem_of_getElem? (i := 1264) (by decide +kernel)⟩
theorem lw_p52 : lw_okq (⟨"QuarterBoardsModel", "put", "(I)V"⟩, 80) := ⟨⟨by decide +kernel, by decide +kernel⟩, List.mem_of_getElem? (i := 1280) (by decide +kernel), List.mem_of_getElem? (i := 1538) (by decide +kernel), List.mem_of_getElem? (i := 1539) (by decide +kernel)⟩
theorem lw_p53 : lw_okq (⟨"QuarterBoardsModel", "cut", "()V"⟩, 80) := ⟨⟨by decide +kernel, by decide +kernel⟩, List.mem_of_getElem? (i := 1280) (by decide +kernel), List.mem_of_getElem? (i := 1550) (by decide +kernel), List.mem_of_getElem? (i := 1551) (by decide +kernel)⟩
theorem lw_p54 : lw_okq (⟨"QuarterBoardsModel", "at", "(I)I"⟩, 80) := ⟨⟨by decide +kernel, by decide +kernel⟩, List.mem_of_getElem? (i := 1280) (by decide +kernel), List.mem_of_getElem? (i := 1554) (by decide +kernel), List.mem_of_getElem? (i := 1555) (by decide +kernel)⟩
theorem lw_p55 : lw_okq (⟨"QuarterBoardsModel", "token", "(IIIJ)V"⟩, 80) := ⟨⟨by decide +kernel, by decide +kernel⟩, List.mem_of_getElem? (i := 1280) (by decide +kernel), List.mem_of_getElem? (i := 1558) (by decide +kernel), List.mem_of_getElem? (i := 1559) (by decide +kernel)⟩
theorem lw_p56 : lw_okq (⟨"QuarterBoardsModel", "is", "(I)Z"⟩, 80) := ⟨⟨by decide +kernel, by decide +kernel⟩, List.mem_of_getElem? (i := 1280) (by decide +kernel), List.mem_of_getElem? (i := 1571) (by decide +kernel), List.mem_of_getElem? (i := 1572) (by decide +kernel)⟩
theorem lw_p57 : lw_okq (⟨"QuarterBoardsModel", "tellThing", "()V"⟩, 80) := ⟨⟨by decide +kernel, by decide +kernel⟩, List.mem_of_getElem? (i := 1280) (by decide +kernel), List.mem_of_getElem? (i := 1575) (by decide +kernel), List.mem_of_getElem? (i := 1576) (by decide +kernel)⟩
theorem lw_p58 : lw_okq (⟨"QuarterBoardsModel", "fail", "(I)V"⟩, 80) := ⟨⟨by decide +kernel, by decide +kernel⟩, List.mem_of_getElem? (i := 1280) (by decide +kernel), List.mem_of_getElem? (i := 1579) (by decide +kernel), List.mem_of_getElem? (i := 1580) (by decide +kernel)⟩
theorem lw_p59 : lw_okq (⟨"QuarterBoardsModel", "next", "()V"⟩, 80) := ⟨⟨by decide +kernel, by decide +kernel⟩, List.mem_of_getElem? (i := 1280) (by decide +kernel), List.mem_of_getElem? (i := 1583) (by decide +kernel), List.mem_of_getElem? (i := 1584) (by decide +kernel)⟩
theorem lw_p60 : lw_okq (⟨"QuarterBoardsModel", "must", "(I)V"⟩, 80) := ⟨⟨by decide +kernel, by decide +kernel⟩, List.mem_of_getElem? (i := 1280) (by decide +kernel), List.mem_of_getElem? (i := 1587) (by decide +kernel), List.mem_of_getElem? (i := 1588) (by decide +kernel)⟩
theorem lw_p61 : lw_okq (⟨"QuarterBoardsModel", "wrong", "(II)V"⟩, 80) := ⟨⟨by decide +kernel, by decide +kernel⟩, List.mem_of_getElem? (i := 1280) (by decide +kernel), List.mem_of_getElem? (i := 1591) (by decide +kernel), List.mem_of_getElem? (i := 1592) (by decide +kernel)⟩
theorem lw_p62 : lw_okq (⟨"QuarterBoardsModel", "expression", "()V"⟩, 80) := ⟨⟨by decide +kernel, by decide +kernel⟩, List.mem_of_getElem? (i := 1280) (by decide +kernel), List.mem_of_getElem? (i := 1595) (by decide +kernel), List.mem_of_getElem? (i := 1596) (by decide +kernel)⟩
theorem lw_p63 : lw_okq (⟨"QuarterBoardsModel", "waitsFor", "(IIII)V"⟩, 80) := ⟨⟨by decide +kernel, by decide +kernel⟩, List.mem_of_getElem? (i := 1280) (by decide +kernel), List.mem_of_getElem? (i := 1599) (by decide +kernel), List.mem_of_getElem? (i := 1600) (by decide +kernel)⟩
def lw_privs_4 : List (MethodName × Nat) := [(⟨"QuarterBoards$Cutter", "cuts", "(LQuarterBoards$Shape;IILQuarterBoards$Measure;)Z"⟩, 10), (⟨"QuarterBoards$Cutter", "haveLikeSides", "()Z"⟩, 10), (⟨"QuarterBoards$Table", "boardsLaid", "()I"⟩, 5), (⟨"QuarterBoards$Book", "areSame", "(II)Z"⟩, 7), (⟨"QuarterBoardsModel", "put", "(I)V"⟩, 80), (⟨"QuarterBoardsModel", "cut", "()V"⟩, 80), (⟨"QuarterBoardsModel", "at", "(I)I"⟩, 80), (⟨"QuarterBoardsModel", "token", "(IIIJ)V"⟩, 80), (⟨"QuarterBoardsModel", "is", "(I)Z"⟩, 80), (⟨"QuarterBoardsModel", "tellThing", "()V"⟩, 80), (⟨"QuarterBoardsModel", "fail", "(I)V"⟩, 80), (⟨"QuarterBoardsModel", "next", "()V"⟩, 80), (⟨"QuarterBoardsModel", "must", "(I)V"⟩, 80), (⟨"QuarterBoardsModel", "wrong", "(II)V"⟩, 80), (⟨"QuarterBoardsModel", "expression", "()V"⟩, 80), (⟨"QuarterBoardsModel", "waitsFor", "(IIII)V"⟩, 80)]
theorem lw_r4 : ∀ q ∈ lw_privs_4, lw_okq q := List.forall_mem_cons.mpr ⟨lw_p48, List.forall_mem_cons.mpr ⟨lw_p49, List.forall_mem_cons.mpr ⟨lw_p50, List.forall_mem_cons.mpr ⟨lw_p51, List.forall_mem_cons.mpr ⟨lw_p52, List.forall_mem_cons.mpr ⟨lw_p53, List.forall_mem_cons.mpr ⟨lw_p54, List.forall_mem_cons.mpr ⟨lw_p55, List.forall_mem_cons.mpr ⟨lw_p56, List.forall_mem_cons.mpr ⟨lw_p57, List.forall_mem_cons.mpr ⟨lw_p58, List.forall_mem_cons.mpr ⟨lw_p59, List.forall_mem_cons.mpr ⟨lw_p60, List.forall_mem_cons.mpr ⟨lw_p61, List.forall_mem_cons.mpr ⟨lw_p62, List.forall_mem_cons.mpr ⟨lw_p63, fun _ h => absurd h List.not_mem_nil⟩⟩⟩⟩⟩⟩⟩⟩⟩⟩⟩⟩⟩⟩⟩⟩
theorem lw_p64 : lw_okq (⟨"QuarterBoardsModel", "signed", "()I"⟩, 80) := ⟨⟨by decide +kernel, by decide +kernel⟩, List.mem_of_getElem? (i := 1280) (by decide +kernel), List.mem_of_getElem? (i := 1603) (by decide +kernel), List.mem_of_getElem? (i := 1604) (by decide +kernel)⟩
theorem lw_p65 : lw_okq (⟨"QuarterBoardsModel", "number", "(II)I"⟩, 80) := ⟨⟨by decide +kernel, by decide +kernel⟩, List.mem_of_getElem? (i := 1280) (by decide +kernel), List.mem_of_getElem? (i := 1607) (by decide +kernel), List.mem_of_getElem? (i := 1608) (by decide +kernel)⟩
theorem lw_p66 : lw_okq (⟨"QuarterBoardsModel", "unit", "()V"⟩, 80) := ⟨⟨by decide +kernel, by decide +kernel⟩, List.mem_of_getElem? (i := 1280) (by decide +kernel), List.mem_of_getElem? (i := 1611) (by decide +kernel), List.mem_of_getElem? (i := 1612) (by decide +kernel)⟩
theorem lw_p67 : lw_okq (⟨"QuarterBoardsModel", "emit", "(IIIIII)V"⟩, 80) := ⟨⟨by decide +kernel, by decide +kernel⟩, List.mem_of_getElem? (i := 1280) (by decide +kernel), List.mem_of_getElem? (i := 1615) (by decide +kernel), List.mem_of_getElem? (i := 1616) (by decide +kernel)⟩
theorem lw_p68 : lw_okq (⟨"QuarterBoardsModel", "comesOut", "()V"⟩, 80) := ⟨⟨by decide +kernel, by decide +kernel⟩, List.mem_of_getElem? (i := 1280) (by decide +kernel), List.mem_of_getElem? (i := 1619) (by decide +kernel), List.mem_of_getElem? (i := 1620) (by decide +kernel)⟩
theorem lw_p69 : lw_okq (⟨"QuarterBoardsModel", "work", "(I)V"⟩, 80) := ⟨⟨by decide +kernel, by decide +kernel⟩, List.mem_of_getElem? (i := 1280) (by decide +kernel), List.mem_of_getElem? (i := 1623) (by decide +kernel), List.mem_of_getElem? (i := 1624) (by decide +kernel)⟩
theorem lw_p70 : lw_okq (⟨"QuarterBoardsModel", "lays", "(II)V"⟩, 80) := ⟨⟨by decide +kernel, by decide +kernel⟩, List.mem_of_getElem? (i := 1280) (by decide +kernel), List.mem_of_getElem? (i := 1627) (by decide +kernel), List.mem_of_getElem? (i := 1628) (by decide +kernel)⟩
theorem lw_p71 : lw_okq (⟨"QuarterBoardsModel", "pageOf", "(I)I"⟩, 80) := ⟨⟨by decide +kernel, by decide +kernel⟩, List.mem_of_getElem? (i := 1280) (by decide +kernel), List.mem_of_getElem? (i := 1631) (by decide +kernel), List.mem_of_getElem? (i := 1632) (by decide +kernel)⟩
theorem lw_p72 : lw_okq (⟨"QuarterBoardsModel", "copies", "(II)V"⟩, 80) := ⟨⟨by decide +kernel, by decide +kernel⟩, List.mem_of_getElem? (i := 1280) (by decide +kernel), List.mem_of_getElem? (i := 1635) (by decide +kernel), List.mem_of_getElem? (i := 1636) (by decide +kernel)⟩
theorem lw_p73 : lw_okq (⟨"QuarterBoardsModel", "clears", "(I)V"⟩, 80) := ⟨⟨by decide +kernel, by decide +kernel⟩, List.mem_of_getElem? (i := 1280) (by decide +kernel), List.mem_of_getElem? (i := 1639) (by decide +kernel), List.mem_of_getElem? (i := 1640) (by decide +kernel)⟩
theorem lw_p74 : lw_okq (⟨"QuarterBoardsModel", "turns", "(IIZ)V"⟩, 80) := ⟨⟨by decide +kernel, by decide +kernel⟩, List.mem_of_getElem? (i := 1280) (by decide +kernel), List.mem_of_getElem? (i := 1643) (by decide +kernel), List.mem_of_getElem? (i := 1644) (by decide +kernel)⟩
theorem lw_p75 : lw_okq (⟨"QuarterBoardsModel", "bases", "(II)V"⟩, 80) := ⟨⟨by decide +kernel, by decide +kernel⟩, List.mem_of_getElem? (i := 1280) (by decide +kernel), List.mem_of_getElem? (i := 1647) (by decide +kernel), List.mem_of_getElem? (i := 1648) (by decide +kernel)⟩
theorem lw_p76 : lw_okq (⟨"QuarterBoardsModel", "shifts", "(IIII)Z"⟩, 80) := ⟨⟨by decide +kernel, by decide +kernel⟩, List.mem_of_getElem? (i := 1280) (by decide +kernel), List.mem_of_getElem? (i := 1651) (by decide +kernel), List.mem_of_getElem? (i := 1652) (by decide +kernel)⟩
theorem lw_p77 : lw_okq (⟨"QuarterBoardsModel", "comesWrong", "(II)V"⟩, 80) := ⟨⟨by decide +kernel, by decide +kernel⟩, List.mem_of_getElem? (i := 1280) (by decide +kernel), List.mem_of_getElem? (i := 1655) (by decide +kernel), List.mem_of_getElem? (i := 1656) (by decide +kernel)⟩
theorem lw_p78 : lw_okq (⟨"QuarterBoardsModel", "areaOf", "(I)I"⟩, 80) := ⟨⟨by decide +kernel, by decide +kernel⟩, List.mem_of_getElem? (i := 1280) (by decide +kernel), List.mem_of_getElem? (i := 1659) (by decide +kernel), List.mem_of_getElem? (i := 1660) (by decide +kernel)⟩
theorem lw_p79 : lw_okq (⟨"QuarterBoardsModel", "restarts", "()V"⟩, 80) := ⟨⟨by decide +kernel, by decide +kernel⟩, List.mem_of_getElem? (i := 1280) (by decide +kernel), List.mem_of_getElem? (i := 1663) (by decide +kernel), List.mem_of_getElem? (i := 1664) (by decide +kernel)⟩
def lw_privs_5 : List (MethodName × Nat) := [(⟨"QuarterBoardsModel", "signed", "()I"⟩, 80), (⟨"QuarterBoardsModel", "number", "(II)I"⟩, 80), (⟨"QuarterBoardsModel", "unit", "()V"⟩, 80), (⟨"QuarterBoardsModel", "emit", "(IIIIII)V"⟩, 80), (⟨"QuarterBoardsModel", "comesOut", "()V"⟩, 80), (⟨"QuarterBoardsModel", "work", "(I)V"⟩, 80), (⟨"QuarterBoardsModel", "lays", "(II)V"⟩, 80), (⟨"QuarterBoardsModel", "pageOf", "(I)I"⟩, 80), (⟨"QuarterBoardsModel", "copies", "(II)V"⟩, 80), (⟨"QuarterBoardsModel", "clears", "(I)V"⟩, 80), (⟨"QuarterBoardsModel", "turns", "(IIZ)V"⟩, 80), (⟨"QuarterBoardsModel", "bases", "(II)V"⟩, 80), (⟨"QuarterBoardsModel", "shifts", "(IIII)Z"⟩, 80), (⟨"QuarterBoardsModel", "comesWrong", "(II)V"⟩, 80), (⟨"QuarterBoardsModel", "areaOf", "(I)I"⟩, 80), (⟨"QuarterBoardsModel", "restarts", "()V"⟩, 80)]
theorem lw_r5 : ∀ q ∈ lw_privs_5, lw_okq q := List.forall_mem_cons.mpr ⟨lw_p64, List.forall_mem_cons.mpr ⟨lw_p65, List.forall_mem_cons.mpr ⟨lw_p66, List.forall_mem_cons.mpr ⟨lw_p67, List.forall_mem_cons.mpr ⟨lw_p68, List.forall_mem_cons.mpr ⟨lw_p69, List.forall_mem_cons.mpr ⟨lw_p70, List.forall_mem_cons.mpr ⟨lw_p71, List.forall_mem_cons.mpr ⟨lw_p72, List.forall_mem_cons.mpr ⟨lw_p73, List.forall_mem_cons.mpr ⟨lw_p74, List.forall_mem_cons.mpr ⟨lw_p75, List.forall_mem_cons.mpr ⟨lw_p76, List.forall_mem_cons.mpr ⟨lw_p77, List.forall_mem_cons.mpr ⟨lw_p78, List.forall_mem_cons.mpr ⟨lw_p79, fun _ h => absurd h List.not_mem_nil⟩⟩⟩⟩⟩⟩⟩⟩⟩⟩⟩⟩⟩⟩⟩⟩
theorem lw_p80 : lw_okq (⟨"QuarterBoardsModel", "shape", "(ZI)I"⟩, 80) := ⟨⟨by decide +kernel, by decide +kernel⟩, List.mem_of_getElem? (i := 1280) (by decide +kernel), List.mem_of_getElem? (i := 1675) (by decide +kernel), List.mem_of_getElem? (i := 1676) (by decide +kernel)⟩
theorem lw_p81 : lw_okq (⟨"QuarterBoardsModel", "piecesOf", "(I)I"⟩, 80) := ⟨⟨by decide +kernel, by decide +kernel⟩, List.mem_of_getElem? (i := 1280) (by decide +kernel), List.mem_of_getElem? (i := 1690) (by decide +kernel), List.mem_of_getElem? (i := 1691) (by decide +kernel)⟩
theorem lw_p82 : lw_okq (⟨"QuarterBoardsModel", "meets", "(II)V"⟩, 80) := ⟨⟨by decide +kernel, by decide +kernel⟩, List.mem_of_getElem? (i := 1280) (by decide +kernel), List.mem_of_getElem? (i := 1694) (by decide +kernel), List.mem_of_getElem? (i := 1695) (by decide +kernel)⟩
theorem lw_p83 : lw_okq (⟨"QuarterBoardsModel", "cornersOf", "(IZ)I"⟩, 80) := ⟨⟨by decide +kernel, by decide +kernel⟩, List.mem_of_getElem? (i := 1280) (by decide +kernel), List.mem_of_getElem? (i := 1702) (by decide +kernel), List.mem_of_getElem? (i := 1703) (by decide +kernel)⟩
theorem lw_p84 : lw_okq (⟨"QuarterBoardsModel", "isIn", "(IIII)Z"⟩, 80) := ⟨⟨by decide +kernel, by decide +kernel⟩, List.mem_of_getElem? (i := 1280) (by decide +kernel), List.mem_of_getElem? (i := 1706) (by decide +kernel), List.mem_of_getElem? (i := 1707) (by decide +kernel)⟩
theorem lw_p85 : lw_okq (⟨"QuarterBoardsModel", "cornersHere", "(IZ)I"⟩, 80) := ⟨⟨by decide +kernel, by decide +kernel⟩, List.mem_of_getElem? (i := 1280) (by decide +kernel), List.mem_of_getElem? (i := 1710) (by decide +kernel), List.mem_of_getElem? (i := 1711) (by decide +kernel)⟩
theorem lw_p86 : lw_okq (⟨"QuarterBoardsModel", "leastSame", "(II)I"⟩, 80) := ⟨⟨by decide +kernel, by decide +kernel⟩, List.mem_of_getElem? (i := 1280) (by decide +kernel), List.mem_of_getElem? (i := 1722) (by decide +kernel), List.mem_of_getElem? (i := 1723) (by decide +kernel)⟩
theorem lw_p87 : lw_okq (⟨"QuarterBoardsModel", "imaged", "(III)V"⟩, 80) := ⟨⟨by decide +kernel, by decide +kernel⟩, List.mem_of_getElem? (i := 1280) (by decide +kernel), List.mem_of_getElem? (i := 1726) (by decide +kernel), List.mem_of_getElem? (i := 1727) (by decide +kernel)⟩
theorem lw_p88 : lw_okq (⟨"QuarterBoardsModel", "isSame", "(II)Z"⟩, 80) := ⟨⟨by decide +kernel, by decide +kernel⟩, List.mem_of_getElem? (i := 1280) (by decide +kernel), List.mem_of_getElem? (i := 1730) (by decide +kernel), List.mem_of_getElem? (i := 1731) (by decide +kernel)⟩
theorem lw_p89 : lw_okq (⟨"QuarterBoardsModel", "alikeBy", "(II)I"⟩, 80) := ⟨⟨by decide +kernel, by decide +kernel⟩, List.mem_of_getElem? (i := 1280) (by decide +kernel), List.mem_of_getElem? (i := 1742) (by decide +kernel), List.mem_of_getElem? (i := 1743) (by decide +kernel)⟩
theorem lw_p90 : lw_okq (⟨"QuarterBoardsModel", "isOutlineThere", "(I)Z"⟩, 80) := ⟨⟨by decide +kernel, by decide +kernel⟩, List.mem_of_getElem? (i := 1280) (by decide +kernel), List.mem_of_getElem? (i := 1750) (by decide +kernel), List.mem_of_getElem? (i := 1751) (by decide +kernel)⟩
theorem lw_p91 : lw_okq (⟨"QuarterBoardsModel", "isSet", "(I)Z"⟩, 80) := ⟨⟨by decide +kernel, by decide +kernel⟩, List.mem_of_getElem? (i := 1280) (by decide +kernel), List.mem_of_getElem? (i := 1754) (by decide +kernel), List.mem_of_getElem? (i := 1755) (by decide +kernel)⟩
theorem lw_p92 : lw_okq (⟨"QuarterBoardsModel", "looks", "(IIZ)V"⟩, 80) := ⟨⟨by decide +kernel, by decide +kernel⟩, List.mem_of_getElem? (i := 1280) (by decide +kernel), List.mem_of_getElem? (i := 1758) (by decide +kernel), List.mem_of_getElem? (i := 1759) (by decide +kernel)⟩
theorem lw_p93 : lw_okq (⟨"QuarterBoardsModel", "readies", "()V"⟩, 80) := ⟨⟨by decide +kernel, by decide +kernel⟩, List.mem_of_getElem? (i := 1280) (by decide +kernel), List.mem_of_getElem? (i := 1762) (by decide +kernel), List.mem_of_getElem? (i := 1763) (by decide +kernel)⟩
theorem lw_p94 : lw_okq (⟨"QuarterBoardsModel", "leastLeft", "()I"⟩, 80) := ⟨⟨by decide +kernel, by decide +kernel⟩, List.mem_of_getElem? (i := 1280) (by decide +kernel), List.mem_of_getElem? (i := 1766) (by decide +kernel), List.mem_of_getElem? (i := 1767) (by decide +kernel)⟩
theorem lw_p95 : lw_okq (⟨"QuarterBoardsModel", "marks", "(IIZ)V"⟩, 80) := ⟨⟨by decide +kernel, by decide +kernel⟩, List.mem_of_getElem? (i := 1280) (by decide +kernel), List.mem_of_getElem? (i := 1770) (by decide +kernel), List.mem_of_getElem? (i := 1771) (by decide +kernel)⟩
def lw_privs_6 : List (MethodName × Nat) := [(⟨"QuarterBoardsModel", "shape", "(ZI)I"⟩, 80), (⟨"QuarterBoardsModel", "piecesOf", "(I)I"⟩, 80), (⟨"QuarterBoardsModel", "meets", "(II)V"⟩, 80), (⟨"QuarterBoardsModel", "cornersOf", "(IZ)I"⟩, 80), (⟨"QuarterBoardsModel", "isIn", "(IIII)Z"⟩, 80), (⟨"QuarterBoardsModel", "cornersHere", "(IZ)I"⟩, 80), (⟨"QuarterBoardsModel", "leastSame", "(II)I"⟩, 80), (⟨"QuarterBoardsModel", "imaged", "(III)V"⟩, 80), (⟨"QuarterBoardsModel", "isSame", "(II)Z"⟩, 80), (⟨"QuarterBoardsModel", "alikeBy", "(II)I"⟩, 80), (⟨"QuarterBoardsModel", "isOutlineThere", "(I)Z"⟩, 80), (⟨"QuarterBoardsModel", "isSet", "(I)Z"⟩, 80), (⟨"QuarterBoardsModel", "looks", "(IIZ)V"⟩, 80), (⟨"QuarterBoardsModel", "readies", "()V"⟩, 80), (⟨"QuarterBoardsModel", "leastLeft", "()I"⟩, 80), (⟨"QuarterBoardsModel", "marks", "(IIZ)V"⟩, 80)]
theorem lw_r6 : ∀ q ∈ lw_privs_6, lw_okq q := List.forall_mem_cons.mpr ⟨lw_p80, List.forall_mem_cons.mpr ⟨lw_p81, List.forall_mem_cons.mpr ⟨lw_p82, List.forall_mem_cons.mpr ⟨lw_p83, List.forall_mem_cons.mpr ⟨lw_p84, List.forall_mem_cons.mpr ⟨lw_p85, List.forall_mem_cons.mpr ⟨lw_p86, List.forall_mem_cons.mpr ⟨lw_p87, List.forall_mem_cons.mpr ⟨lw_p88, List.forall_mem_cons.mpr ⟨lw_p89, List.forall_mem_cons.mpr ⟨lw_p90, List.forall_mem_cons.mpr ⟨lw_p91, List.forall_mem_cons.mpr ⟨lw_p92, List.forall_mem_cons.mpr ⟨lw_p93, List.forall_mem_cons.mpr ⟨lw_p94, List.forall_mem_cons.mpr ⟨lw_p95, fun _ h => absurd h List.not_mem_nil⟩⟩⟩⟩⟩⟩⟩⟩⟩⟩⟩⟩⟩⟩⟩⟩
theorem lw_p96 : lw_okq (⟨"QuarterBoardsModel", "liesOn", "(II)Z"⟩, 80) := ⟨⟨by decide +kernel, by decide +kernel⟩, List.mem_of_getElem? (i := 1280) (by decide +kernel), List.mem_of_getElem? (i := 1774) (by decide +kernel), List.mem_of_getElem? (i := 1775) (by decide +kernel)⟩
theorem lw_p97 : lw_okq (⟨"QuarterBoardsModel", "isFree", "(II)Z"⟩, 80) := ⟨⟨by decide +kernel, by decide +kernel⟩, List.mem_of_getElem? (i := 1280) (by decide +kernel), List.mem_of_getElem? (i := 1779) (by decide +kernel), List.mem_of_getElem? (i := 1780) (by decide +kernel)⟩
theorem lw_p98 : lw_okq (⟨"QuarterBoardsModel", "remembers", "(I)V"⟩, 80) := ⟨⟨by decide +kernel, by decide +kernel⟩, List.mem_of_getElem? (i := 1280) (by decide +kernel), List.mem_of_getElem? (i := 1783) (by decide +kernel), List.mem_of_getElem? (i := 1784) (by decide +kernel)⟩
theorem lw_p99 : lw_okq (⟨"QuarterBoardsModel", "setsOf", "(II)I"⟩, 80) := ⟨⟨by decide +kernel, by decide +kernel⟩, List.mem_of_getElem? (i := 1280) (by decide +kernel), List.mem_of_getElem? (i := 1799) (by decide +kernel), List.mem_of_getElem? (i := 1800) (by decide +kernel)⟩
theorem lw_p100 : lw_okq (⟨"QuarterBoardsModel", "parts", "(II)Z"⟩, 80) := ⟨⟨by decide +kernel, by decide +kernel⟩, List.mem_of_getElem? (i := 1280) (by decide +kernel), List.mem_of_getElem? (i := 1815) (by decide +kernel), List.mem_of_getElem? (i := 1816) (by decide +kernel)⟩
theorem lw_p101 : lw_okq (⟨"QuarterBoardsModel", "laysThere", "()I"⟩, 80) := ⟨⟨by decide +kernel, by decide +kernel⟩, List.mem_of_getElem? (i := 1280) (by decide +kernel), List.mem_of_getElem? (i := 1831) (by decide +kernel), List.mem_of_getElem? (i := 1832) (by decide +kernel)⟩
theorem lw_p102 : lw_okq (⟨"QuarterBoardsModel", "layersAt", "(I)I"⟩, 80) := ⟨⟨by decide +kernel, by decide +kernel⟩, List.mem_of_getElem? (i := 1280) (by decide +kernel), List.mem_of_getElem? (i := 1847) (by decide +kernel), List.mem_of_getElem? (i := 1848) (by decide +kernel)⟩
theorem lw_p103 : lw_okq (⟨"QuarterBoardsModel", "judge", "(II)I"⟩, 80) := ⟨⟨by decide +kernel, by decide +kernel⟩, List.mem_of_getElem? (i := 1280) (by decide +kernel), List.mem_of_getElem? (i := 1859) (by decide +kernel), List.mem_of_getElem? (i := 1860) (by decide +kernel)⟩
theorem lw_p104 : lw_okq (⟨"QuarterBoardsModel", "isClaim", "(I)Z"⟩, 80) := ⟨⟨by decide +kernel, by decide +kernel⟩, List.mem_of_getElem? (i := 1280) (by decide +kernel), List.mem_of_getElem? (i := 1868) (by decide +kernel), List.mem_of_getElem? (i := 1869) (by decide +kernel)⟩
theorem lw_p105 : lw_okq (⟨"QuarterBoardsModel", "isRight", "(II)Z"⟩, 80) := ⟨⟨by decide +kernel, by decide +kernel⟩, List.mem_of_getElem? (i := 1280) (by decide +kernel), List.mem_of_getElem? (i := 1880) (by decide +kernel), List.mem_of_getElem? (i := 1881) (by decide +kernel)⟩
theorem lw_p106 : lw_okq (⟨"QuarterBoardsModel", "firstOf", "(II)I"⟩, 80) := ⟨⟨by decide +kernel, by decide +kernel⟩, List.mem_of_getElem? (i := 1280) (by decide +kernel), List.mem_of_getElem? (i := 1884) (by decide +kernel), List.mem_of_getElem? (i := 1885) (by decide +kernel)⟩
theorem lw_p107 : lw_okq (⟨"QuarterBoardsModel", "isLike", "(II)Z"⟩, 80) := ⟨⟨by decide +kernel, by decide +kernel⟩, List.mem_of_getElem? (i := 1280) (by decide +kernel), List.mem_of_getElem? (i := 1888) (by decide +kernel), List.mem_of_getElem? (i := 1889) (by decide +kernel)⟩
def lw_privs_7 : List (MethodName × Nat) := [(⟨"QuarterBoardsModel", "liesOn", "(II)Z"⟩, 80), (⟨"QuarterBoardsModel", "isFree", "(II)Z"⟩, 80), (⟨"QuarterBoardsModel", "remembers", "(I)V"⟩, 80), (⟨"QuarterBoardsModel", "setsOf", "(II)I"⟩, 80), (⟨"QuarterBoardsModel", "parts", "(II)Z"⟩, 80), (⟨"QuarterBoardsModel", "laysThere", "()I"⟩, 80), (⟨"QuarterBoardsModel", "layersAt", "(I)I"⟩, 80), (⟨"QuarterBoardsModel", "judge", "(II)I"⟩, 80), (⟨"QuarterBoardsModel", "isClaim", "(I)Z"⟩, 80), (⟨"QuarterBoardsModel", "isRight", "(II)Z"⟩, 80), (⟨"QuarterBoardsModel", "firstOf", "(II)I"⟩, 80), (⟨"QuarterBoardsModel", "isLike", "(II)Z"⟩, 80)]
theorem lw_r7 : ∀ q ∈ lw_privs_7, lw_okq q := List.forall_mem_cons.mpr ⟨lw_p96, List.forall_mem_cons.mpr ⟨lw_p97, List.forall_mem_cons.mpr ⟨lw_p98, List.forall_mem_cons.mpr ⟨lw_p99, List.forall_mem_cons.mpr ⟨lw_p100, List.forall_mem_cons.mpr ⟨lw_p101, List.forall_mem_cons.mpr ⟨lw_p102, List.forall_mem_cons.mpr ⟨lw_p103, List.forall_mem_cons.mpr ⟨lw_p104, List.forall_mem_cons.mpr ⟨lw_p105, List.forall_mem_cons.mpr ⟨lw_p106, List.forall_mem_cons.mpr ⟨lw_p107, fun _ h => absurd h List.not_mem_nil⟩⟩⟩⟩⟩⟩⟩⟩⟩⟩⟩⟩
def lw_privs : List (MethodName × Nat) := lw_privs_1 ++ (lw_privs_2 ++ (lw_privs_3 ++ (lw_privs_4 ++ (lw_privs_5 ++ (lw_privs_6 ++ (lw_privs_7))))))
def lw_tbl : List Cond := k2_sels lw_privs ++ tables_1
theorem lw_privs_ok : ∀ q ∈ lw_privs, lw_okq q := by
  show ∀ q ∈ lw_privs_1 ++ (lw_privs_2 ++ (lw_privs_3 ++ (lw_privs_4 ++ (lw_privs_5 ++ (lw_privs_6 ++ (lw_privs_7)))))), lw_okq q
  exact List.forall_mem_append.mpr ⟨lw_r1, List.forall_mem_append.mpr ⟨lw_r2, List.forall_mem_append.mpr ⟨lw_r3, List.forall_mem_append.mpr ⟨lw_r4, List.forall_mem_append.mpr ⟨lw_r5, List.forall_mem_append.mpr ⟨lw_r6, lw_r7⟩⟩⟩⟩⟩⟩
-- ===== end of PART A; then your names; then what follows =====
end
section
/-! ===== names: the words of the tables that are good; classes, fields, methods ===== -/
def gT : List Cond := lw_tbl.filter goodWord
theorem gT_of {c : Cond} (i : Nat) (h : lw_tbl[i]? = some c) (hg : goodWord c = true) : c ∈ gT := List.mem_filter.mpr ⟨List.mem_of_getElem? h, hg⟩
theorem gT_ws {ws : List Cond} (ps : List Nat) (h : ws = ps.filterMap (fun i => lw_tbl[i]?)) (hg : ws.all goodWord = true) : ∀ w ∈ ws, w ∈ gT := by
  intro w hw
  have h1 := List.all_eq_true.mp hg w hw
  rw [h] at hw
  obtain ⟨i, -, hi⟩ := List.mem_filterMap.mp hw
  exact gT_of i hi h1
theorem gT_at {l : List Cond} (hs : ∀ w ∈ l, w ∈ lw_tbl) {c : Cond} (i : Nat) (h : l[i]? = some c) (hg : goodWord c = true) : c ∈ gT := List.mem_filter.mpr ⟨hs c (List.mem_of_getElem? h), hg⟩
theorem sub_1 : ∀ w ∈ tables_1_1, w ∈ lw_tbl := fun w hw => List.mem_append_right _ (show w ∈ tables_1 from List.mem_append_left _ (hw))
theorem sub_2 : ∀ w ∈ tables_1_2, w ∈ lw_tbl := fun w hw => List.mem_append_right _ (show w ∈ tables_1 from List.mem_append_right _ (List.mem_append_left _ (hw)))
theorem sub_3 : ∀ w ∈ tables_1_3, w ∈ lw_tbl := fun w hw => List.mem_append_right _ (show w ∈ tables_1 from List.mem_append_right _ (List.mem_append_right _ (List.mem_append_left _ (hw))))
theorem sub_4 : ∀ w ∈ tables_1_4, w ∈ lw_tbl := fun w hw => List.mem_append_right _ (show w ∈ tables_1 from List.mem_append_right _ (List.mem_append_right _ (List.mem_append_right _ (List.mem_append_left _ (hw)))))
theorem sub_5 : ∀ w ∈ tables_1_5, w ∈ lw_tbl := fun w hw => List.mem_append_right _ (show w ∈ tables_1 from List.mem_append_right _ (List.mem_append_right _ (List.mem_append_right _ (List.mem_append_right _ (List.mem_append_left _ (hw))))))
theorem sub_6 : ∀ w ∈ tables_1_6, w ∈ lw_tbl := fun w hw => List.mem_append_right _ (show w ∈ tables_1 from List.mem_append_right _ (List.mem_append_right _ (List.mem_append_right _ (List.mem_append_right _ (List.mem_append_right _ (List.mem_append_left _ (hw)))))))
theorem sub_7 : ∀ w ∈ tables_1_7, w ∈ lw_tbl := fun w hw => List.mem_append_right _ (show w ∈ tables_1 from List.mem_append_right _ (List.mem_append_right _ (List.mem_append_right _ (List.mem_append_right _ (List.mem_append_right _ (List.mem_append_right _ (List.mem_append_left _ (hw))))))))
theorem sub_8 : ∀ w ∈ tables_1_8, w ∈ lw_tbl := fun w hw => List.mem_append_right _ (show w ∈ tables_1 from List.mem_append_right _ (List.mem_append_right _ (List.mem_append_right _ (List.mem_append_right _ (List.mem_append_right _ (List.mem_append_right _ (List.mem_append_right _ (hw))))))))
def R_Book : String := "QuarterBoards$Book"
def T_Book : u_T := fun k => match k with
  | 0 => ("QuarterBoards$Book", "entries", "I", false)
  | 1 => ("QuarterBoards$Book", "verdicts", "[I", true)
  | 2 => ("QuarterBoards$Book", "players", "[I", true)
  | 3 => ("QuarterBoards$Book", "outlines", "[I", true)
  | 4 => ("QuarterBoards$Book", "boardSets", "[I", true)
  | 5 => ("QuarterBoards$Book", "layCodes", "[[I", true)
  | _ => ("QuarterBoards$Book", "named", "[I", true)
def ty_Book : Nat → FieldType := fun k => match k with
  | 0 => .int
  | 1 => .array .int
  | 2 => .array .int
  | 3 => .array .int
  | 4 => .array .int
  | 5 => .array (.array .int)
  | _ => .array .int
theorem nm_Book : ∀ a, a < 7 → ∀ b, b < 7 → a ≠ b → (T_Book a).2.1 ≠ (T_Book b).2.1 := by decide +kernel
theorem tyok_Book : ∀ k, k < 7 → parseFieldDescriptor (T_Book k).2.2.1 = some (ty_Book k) := by decide +kernel
theorem iw_Book : ∀ w ∈ u_ws R_Book T_Book 7, w ∈ gT := gT_ws [519, 521, 523, 525, 527, 529, 531] (by decide +kernel) (by decide +kernel)
def R_Builder : String := "QuarterBoards$Builder"
def T_Builder : u_T := fun k => match k with
  | 0 => ("QuarterBoards$Builder", "made", "[LQuarterBoards$Shape;", true)
  | 1 => ("QuarterBoards$Builder", "asOutline", "[Z", true)
  | 2 => ("QuarterBoards$Builder", "many", "I", false)
  | 3 => ("QuarterBoards$Builder", "names", "[J", true)
  | 4 => ("QuarterBoards$Builder", "sums", "[LQuarterBoards$Shape;", true)
  | 5 => ("QuarterBoards$Builder", "parts", "[LQuarterBoards$Shape;", true)
  | 6 => ("QuarterBoards$Builder", "spare", "LQuarterBoards$Shape;", true)
  | 7 => ("QuarterBoards$Builder", "words", "[I", true)
  | 8 => ("QuarterBoards$Builder", "wordsOpen", "I", false)
  | 9 => ("QuarterBoards$Builder", "tokens", "LQuarterBoards$Tokens;", true)
  | _ => ("QuarterBoards$Builder", "at", "I", false)
def ty_Builder : Nat → FieldType := fun k => match k with
  | 0 => .array (.object "QuarterBoards$Shape")
  | 1 => .array .boolean
  | 2 => .int
  | 3 => .array .long
  | 4 => .array (.object "QuarterBoards$Shape")
  | 5 => .array (.object "QuarterBoards$Shape")
  | 6 => .object "QuarterBoards$Shape"
  | 7 => .array .int
  | 8 => .int
  | 9 => .object "QuarterBoards$Tokens"
  | _ => .int
theorem nm_Builder : ∀ a, a < 11 → ∀ b, b < 11 → a ≠ b → (T_Builder a).2.1 ≠ (T_Builder b).2.1 := by decide +kernel
theorem tyok_Builder : ∀ k, k < 11 → parseFieldDescriptor (T_Builder k).2.2.1 = some (ty_Builder k) := by decide +kernel
theorem iw_Builder : ∀ w ∈ u_ws R_Builder T_Builder 11, w ∈ gT := gT_ws [307, 309, 311, 313, 315, 317, 319, 321, 323, 325, 327] (by decide +kernel) (by decide +kernel)
def R_Cutter : String := "QuarterBoards$Cutter"
def T_Cutter : u_T := fun k => match k with
  | 0 => ("QuarterBoards$Cutter", "partCount", "I", false)
  | 1 => ("QuarterBoards$Cutter", "imageLaid", "I", false)
  | 2 => ("QuarterBoards$Cutter", "shiftA", "I", false)
  | 3 => ("QuarterBoards$Cutter", "shiftB", "I", false)
  | 4 => ("QuarterBoards$Cutter", "whole", "LQuarterBoards$Shape;", true)
  | 5 => ("QuarterBoards$Cutter", "firstPart", "LQuarterBoards$Shape;", true)
  | 6 => ("QuarterBoards$Cutter", "secondPart", "LQuarterBoards$Shape;", true)
  | 7 => ("QuarterBoards$Cutter", "common", "LQuarterBoards$Shape;", true)
  | 8 => ("QuarterBoards$Cutter", "leftOver", "LQuarterBoards$Shape;", true)
  | _ => ("QuarterBoards$Cutter", "leftForm", "LQuarterBoards$Form;", true)
def ty_Cutter : Nat → FieldType := fun k => match k with
  | 0 => .int
  | 1 => .int
  | 2 => .int
  | 3 => .int
  | 4 => .object "QuarterBoards$Shape"
  | 5 => .object "QuarterBoards$Shape"
  | 6 => .object "QuarterBoards$Shape"
  | 7 => .object "QuarterBoards$Shape"
  | 8 => .object "QuarterBoards$Shape"
  | _ => .object "QuarterBoards$Form"
theorem nm_Cutter : ∀ a, a < 10 → ∀ b, b < 10 → a ≠ b → (T_Cutter a).2.1 ≠ (T_Cutter b).2.1 := by decide +kernel
theorem tyok_Cutter : ∀ k, k < 10 → parseFieldDescriptor (T_Cutter k).2.2.1 = some (ty_Cutter k) := by decide +kernel
theorem iw_Cutter : ∀ w ∈ u_ws R_Cutter T_Cutter 10, w ∈ gT := gT_ws [458, 460, 462, 464, 466, 468, 470, 472, 474, 476] (by decide +kernel) (by decide +kernel)
def R_Filler : String := "QuarterBoards$Filler"
def T_Filler : u_T := fun k => match k with
  | 0 => ("QuarterBoards$Filler", "countedSteps", "I", false)
  | 1 => ("QuarterBoards$Filler", "boards", "[LQuarterBoards$Form;", true)
  | 2 => ("QuarterBoards$Filler", "left", "LQuarterBoards$Shape;", true)
  | 3 => ("QuarterBoards$Filler", "onlyFirst", "Z", false)
  | 4 => ("QuarterBoards$Filler", "full", "Z", false)
  | 5 => ("QuarterBoards$Filler", "stepsDone", "I", false)
  | 6 => ("QuarterBoards$Filler", "ways", "I", false)
  | 7 => ("QuarterBoards$Filler", "tried", "[I", true)
  | 8 => ("QuarterBoards$Filler", "firstWay", "[I", true)
  | 9 => ("QuarterBoards$Filler", "rememberedSet", "I", false)
  | 10 => ("QuarterBoards$Filler", "setCounts", "[I", true)
  | _ => ("QuarterBoards$Filler", "fillingSets", "[[I", true)
def ty_Filler : Nat → FieldType := fun k => match k with
  | 0 => .int
  | 1 => .array (.object "QuarterBoards$Form")
  | 2 => .object "QuarterBoards$Shape"
  | 3 => .boolean
  | 4 => .boolean
  | 5 => .int
  | 6 => .int
  | 7 => .array .int
  | 8 => .array .int
  | 9 => .int
  | 10 => .array .int
  | _ => .array (.array .int)
theorem nm_Filler : ∀ a, a < 12 → ∀ b, b < 12 → a ≠ b → (T_Filler a).2.1 ≠ (T_Filler b).2.1 := by decide +kernel
theorem tyok_Filler : ∀ k, k < 12 → parseFieldDescriptor (T_Filler k).2.2.1 = some (ty_Filler k) := by decide +kernel
theorem iw_Filler : ∀ w ∈ u_ws R_Filler T_Filler 12, w ∈ gT := gT_ws [371, 373, 375, 377, 379, 381, 383, 385, 387, 389, 391, 393] (by decide +kernel) (by decide +kernel)
def R_Form : String := "QuarterBoards$Form"
def T_Form : u_T := fun k => match k with
  | 0 => ("QuarterBoards$Form", "told", "LQuarterBoards$Shape;", true)
  | 1 => ("QuarterBoards$Form", "turned", "[LQuarterBoards$Shape;", true)
  | 2 => ("QuarterBoards$Form", "lowest", "[I", true)
  | 3 => ("QuarterBoards$Form", "width", "[I", true)
  | 4 => ("QuarterBoards$Form", "height", "[I", true)
  | 5 => ("QuarterBoards$Form", "leastSame", "[I", true)
  | _ => ("QuarterBoards$Form", "size", "I", false)
def ty_Form : Nat → FieldType := fun k => match k with
  | 0 => .object "QuarterBoards$Shape"
  | 1 => .array (.object "QuarterBoards$Shape")
  | 2 => .array .int
  | 3 => .array .int
  | 4 => .array .int
  | 5 => .array .int
  | _ => .int
theorem nm_Form : ∀ a, a < 7 → ∀ b, b < 7 → a ≠ b → (T_Form a).2.1 ≠ (T_Form b).2.1 := by decide +kernel
theorem tyok_Form : ∀ k, k < 7 → parseFieldDescriptor (T_Form k).2.2.1 = some (ty_Form k) := by decide +kernel
theorem iw_Form : ∀ w ∈ u_ws R_Form T_Form 7, w ∈ gT := gT_ws [433, 435, 437, 439, 441, 443, 445] (by decide +kernel) (by decide +kernel)
def R_Meaning : String := "QuarterBoards$Meaning"
def T_Meaning : u_T := fun k => match k with
  | 0 => ("QuarterBoards$Meaning", "names", "[J", true)
  | 1 => ("QuarterBoards$Meaning", "told", "I", false)
  | 2 => ("QuarterBoards$Meaning", "openName", "J", false)
  | 3 => ("QuarterBoards$Meaning", "word", "I", false)
  | 4 => ("QuarterBoards$Meaning", "numbersSeen", "I", false)
  | 5 => ("QuarterBoards$Meaning", "unitX", "I", false)
  | _ => ("QuarterBoards$Meaning", "unitY", "I", false)
def ty_Meaning : Nat → FieldType := fun k => match k with
  | 0 => .array .long
  | 1 => .int
  | 2 => .long
  | 3 => .int
  | 4 => .int
  | 5 => .int
  | _ => .int
theorem nm_Meaning : ∀ a, a < 7 → ∀ b, b < 7 → a ≠ b → (T_Meaning a).2.1 ≠ (T_Meaning b).2.1 := by decide +kernel
theorem tyok_Meaning : ∀ k, k < 7 → parseFieldDescriptor (T_Meaning k).2.2.1 = some (ty_Meaning k) := by decide +kernel
theorem iw_Meaning : ∀ w ∈ u_ws R_Meaning T_Meaning 7, w ∈ gT := gT_ws [259, 261, 263, 265, 267, 269, 271] (by decide +kernel) (by decide +kernel)
def R_Measure : String := "QuarterBoards$Measure"
def T_Measure : u_T := fun k => match k with
  | 0 => ("QuarterBoards$Measure", "open", "LQuarterBoards$Shape;", true)
  | 1 => ("QuarterBoards$Measure", "queue", "[I", true)
  | _ => ("QuarterBoards$Measure", "queued", "I", false)
def ty_Measure : Nat → FieldType := fun k => match k with
  | 0 => .object "QuarterBoards$Shape"
  | 1 => .array .int
  | _ => .int
theorem nm_Measure : ∀ a, a < 3 → ∀ b, b < 3 → a ≠ b → (T_Measure a).2.1 ≠ (T_Measure b).2.1 := by decide +kernel
theorem tyok_Measure : ∀ k, k < 3 → parseFieldDescriptor (T_Measure k).2.2.1 = some (ty_Measure k) := by decide +kernel
theorem iw_Measure : ∀ w ∈ u_ws R_Measure T_Measure 3, w ∈ gT := gT_ws [341, 343, 345] (by decide +kernel) (by decide +kernel)
def R_Shape : String := "QuarterBoards$Shape"
def T_Shape : u_T := fun k => match k with
  | _ => ("QuarterBoards$Shape", "rows", "[I", true)
def ty_Shape : Nat → FieldType := fun k => match k with
  | _ => .array .int
theorem nm_Shape : ∀ a, a < 1 → ∀ b, b < 1 → a ≠ b → (T_Shape a).2.1 ≠ (T_Shape b).2.1 := by decide +kernel
theorem tyok_Shape : ∀ k, k < 1 → parseFieldDescriptor (T_Shape k).2.2.1 = some (ty_Shape k) := by decide +kernel
theorem iw_Shape : ∀ w ∈ u_ws R_Shape T_Shape 1, w ∈ gT := gT_ws [289] (by decide +kernel) (by decide +kernel)
def R_Syntax : String := "QuarterBoards$Syntax"
def T_Syntax : u_T := fun k => match k with
  | 0 => ("QuarterBoards$Syntax", "state", "I", false)
  | 1 => ("QuarterBoards$Syntax", "numbersLeft", "I", false)
  | 2 => ("QuarterBoards$Syntax", "brackets", "I", false)
  | 3 => ("QuarterBoards$Syntax", "boardsTold", "I", false)
  | _ => ("QuarterBoards$Syntax", "outlinesTold", "I", false)
def ty_Syntax : Nat → FieldType := fun k => match k with
  | 0 => .int
  | 1 => .int
  | 2 => .int
  | 3 => .int
  | _ => .int
theorem nm_Syntax : ∀ a, a < 5 → ∀ b, b < 5 → a ≠ b → (T_Syntax a).2.1 ≠ (T_Syntax b).2.1 := by decide +kernel
theorem tyok_Syntax : ∀ k, k < 5 → parseFieldDescriptor (T_Syntax k).2.2.1 = some (ty_Syntax k) := by decide +kernel
theorem iw_Syntax : ∀ w ∈ u_ws R_Syntax T_Syntax 5, w ∈ gT := gT_ws [235, 237, 239, 241, 243] (by decide +kernel) (by decide +kernel)
def R_Table : String := "QuarterBoards$Table"
def T_Table : u_T := fun k => match k with
  | 0 => ("QuarterBoards$Table", "lays", "[LQuarterBoards$Shape;", true)
  | 1 => ("QuarterBoards$Table", "codes", "[I", true)
  | 2 => ("QuarterBoards$Table", "once", "LQuarterBoards$Shape;", true)
  | 3 => ("QuarterBoards$Table", "again", "LQuarterBoards$Shape;", true)
  | _ => ("QuarterBoards$Table", "spare", "LQuarterBoards$Shape;", true)
def ty_Table : Nat → FieldType := fun k => match k with
  | 0 => .array (.object "QuarterBoards$Shape")
  | 1 => .array .int
  | 2 => .object "QuarterBoards$Shape"
  | 3 => .object "QuarterBoards$Shape"
  | _ => .object "QuarterBoards$Shape"
theorem nm_Table : ∀ a, a < 5 → ∀ b, b < 5 → a ≠ b → (T_Table a).2.1 ≠ (T_Table b).2.1 := by decide +kernel
theorem tyok_Table : ∀ k, k < 5 → parseFieldDescriptor (T_Table k).2.2.1 = some (ty_Table k) := by decide +kernel
theorem iw_Table : ∀ w ∈ u_ws R_Table T_Table 5, w ∈ gT := gT_ws [492, 494, 496, 498, 500] (by decide +kernel) (by decide +kernel)
def R_Tokens : String := "QuarterBoards$Tokens"
def T_Tokens : u_T := fun k => match k with
  | 0 => ("QuarterBoards$Tokens", "kinds", "[I", true)
  | 1 => ("QuarterBoards$Tokens", "places", "[I", true)
  | 2 => ("QuarterBoards$Tokens", "values", "[J", true)
  | 3 => ("QuarterBoards$Tokens", "many", "I", false)
  | 4 => ("QuarterBoards$Tokens", "endPlace", "I", false)
  | 5 => ("QuarterBoards$Tokens", "fault", "I", false)
  | 6 => ("QuarterBoards$Tokens", "faultPlace", "I", false)
  | _ => ("QuarterBoards$Tokens", "wordCodes", "[J", true)
def ty_Tokens : Nat → FieldType := fun k => match k with
  | 0 => .array .int
  | 1 => .array .int
  | 2 => .array .long
  | 3 => .int
  | 4 => .int
  | 5 => .int
  | 6 => .int
  | _ => .array .long
theorem nm_Tokens : ∀ a, a < 8 → ∀ b, b < 8 → a ≠ b → (T_Tokens a).2.1 ≠ (T_Tokens b).2.1 := by decide +kernel
theorem tyok_Tokens : ∀ k, k < 8 → parseFieldDescriptor (T_Tokens k).2.2.1 = some (ty_Tokens k) := by decide +kernel
theorem iw_Tokens : ∀ w ∈ u_ws R_Tokens T_Tokens 8, w ∈ gT := gT_ws [204, 206, 208, 210, 212, 214, 216, 218] (by decide +kernel) (by decide +kernel)
def R_Q : String := "QuarterBoards"
def T_Q : u_T := fun k => match k with
  | 0 => ("QuarterBoards", "tape", "[B", true)
  | 1 => ("QuarterBoards", "tapeLength", "I", false)
  | 2 => ("QuarterBoards", "faultPlace", "I", false)
  | 3 => ("QuarterBoards", "boards", "[LQuarterBoards$Form;", true)
  | 4 => ("QuarterBoards", "outlines", "[LQuarterBoards$Form;", true)
  | 5 => ("QuarterBoards", "boardCount", "I", false)
  | 6 => ("QuarterBoards", "outlineCount", "I", false)
  | 7 => ("QuarterBoards", "tokens", "LQuarterBoards$Tokens;", true)
  | 8 => ("QuarterBoards", "syntax", "LQuarterBoards$Syntax;", true)
  | 9 => ("QuarterBoards", "meaning", "LQuarterBoards$Meaning;", true)
  | 10 => ("QuarterBoards", "builder", "LQuarterBoards$Builder;", true)
  | 11 => ("QuarterBoards", "measure", "LQuarterBoards$Measure;", true)
  | 12 => ("QuarterBoards", "filler", "LQuarterBoards$Filler;", true)
  | 13 => ("QuarterBoards", "cutter", "LQuarterBoards$Cutter;", true)
  | 14 => ("QuarterBoards", "table", "LQuarterBoards$Table;", true)
  | 15 => ("QuarterBoards", "book", "LQuarterBoards$Book;", true)
  | _ => ("QuarterBoards", "covered", "LQuarterBoards$Shape;", true)
def ty_Q : Nat → FieldType := fun k => match k with
  | 0 => .array .byte
  | 1 => .int
  | 2 => .int
  | 3 => .array (.object "QuarterBoards$Form")
  | 4 => .array (.object "QuarterBoards$Form")
  | 5 => .int
  | 6 => .int
  | 7 => .object "QuarterBoards$Tokens"
  | 8 => .object "QuarterBoards$Syntax"
  | 9 => .object "QuarterBoards$Meaning"
  | 10 => .object "QuarterBoards$Builder"
  | 11 => .object "QuarterBoards$Measure"
  | 12 => .object "QuarterBoards$Filler"
  | 13 => .object "QuarterBoards$Cutter"
  | 14 => .object "QuarterBoards$Table"
  | 15 => .object "QuarterBoards$Book"
  | _ => .object "QuarterBoards$Shape"
theorem nm_Q : ∀ a, a < 17 → ∀ b, b < 17 → a ≠ b → (T_Q a).2.1 ≠ (T_Q b).2.1 := by decide +kernel
theorem tyok_Q : ∀ k, k < 17 → parseFieldDescriptor (T_Q k).2.2.1 = some (ty_Q k) := by decide +kernel
theorem iw_Q : ∀ w ∈ u_ws R_Q T_Q 17, w ∈ gT := gT_ws [554, 556, 558, 560, 562, 564, 566, 568, 570, 572, 574, 576, 578, 580, 582, 584, 586] (by decide +kernel) (by decide +kernel)
def R_Mo : String := "QuarterBoardsModel"
def T_Mo : u_T := fun k => match k with
  | 0 => ("QuarterBoardsModel", "thrown", "I", false)
  | 1 => ("QuarterBoardsModel", "tape", "[B", true)
  | 2 => ("QuarterBoardsModel", "taped", "I", false)
  | 3 => ("QuarterBoardsModel", "text", "[B", true)
  | 4 => ("QuarterBoardsModel", "size", "I", false)
  | 5 => ("QuarterBoardsModel", "tKind", "[I", true)
  | 6 => ("QuarterBoardsModel", "tPlace", "[I", true)
  | 7 => ("QuarterBoardsModel", "tValue", "[I", true)
  | 8 => ("QuarterBoardsModel", "tName", "[J", true)
  | 9 => ("QuarterBoardsModel", "keys", "[J", true)
  | 10 => ("QuarterBoardsModel", "tokens", "I", false)
  | 11 => ("QuarterBoardsModel", "t", "I", false)
  | 12 => ("QuarterBoardsModel", "open", "I", false)
  | 13 => ("QuarterBoardsModel", "fault", "I", false)
  | 14 => ("QuarterBoardsModel", "faultPlace", "I", false)
  | 15 => ("QuarterBoardsModel", "worst", "I", false)
  | 16 => ("QuarterBoardsModel", "worstPlace", "I", false)
  | 17 => ("QuarterBoardsModel", "place", "I", false)
  | 18 => ("QuarterBoardsModel", "sh", "[Z", true)
  | 19 => ("QuarterBoardsModel", "live", "I", false)
  | 20 => ("QuarterBoardsModel", "side", "I", false)
  | 21 => ("QuarterBoardsModel", "boards", "[I", true)
  | 22 => ("QuarterBoardsModel", "outlines", "[I", true)
  | 23 => ("QuarterBoardsModel", "things", "I", false)
  | 24 => ("QuarterBoardsModel", "thingName", "[J", true)
  | 25 => ("QuarterBoardsModel", "thingToken", "[I", true)
  | 26 => ("QuarterBoardsModel", "isOutline", "[Z", true)
  | 27 => ("QuarterBoardsModel", "thingNumber", "[I", true)
  | 28 => ("QuarterBoardsModel", "thingFrom", "[I", true)
  | 29 => ("QuarterBoardsModel", "codes", "I", false)
  | 30 => ("QuarterBoardsModel", "code", "[I", true)
  | 31 => ("QuarterBoardsModel", "numA", "[I", true)
  | 32 => ("QuarterBoardsModel", "numB", "[I", true)
  | 33 => ("QuarterBoardsModel", "numC", "[I", true)
  | 34 => ("QuarterBoardsModel", "numD", "[I", true)
  | 35 => ("QuarterBoardsModel", "codePlace", "[I", true)
  | 36 => ("QuarterBoardsModel", "waits", "[I", true)
  | 37 => ("QuarterBoardsModel", "waitA", "[I", true)
  | 38 => ("QuarterBoardsModel", "waitB", "[I", true)
  | 39 => ("QuarterBoardsModel", "waitPlace", "[I", true)
  | 40 => ("QuarterBoardsModel", "waiting", "I", false)
  | 41 => ("QuarterBoardsModel", "trail", "[I", true)
  | 42 => ("QuarterBoardsModel", "isMet", "[Z", true)
  | 43 => ("QuarterBoardsModel", "trailed", "I", false)
  | 44 => ("QuarterBoardsModel", "round", "[Z", true)
  | 45 => ("QuarterBoardsModel", "imageMany", "[I", true)
  | 46 => ("QuarterBoardsModel", "imageRow", "[I", true)
  | 47 => ("QuarterBoardsModel", "isUsed", "[Z", true)
  | 48 => ("QuarterBoardsModel", "isReady", "Z", false)
  | 49 => ("QuarterBoardsModel", "left", "[Z", true)
  | 50 => ("QuarterBoardsModel", "steps", "I", false)
  | 51 => ("QuarterBoardsModel", "lookSteps", "I", false)
  | 52 => ("QuarterBoardsModel", "found", "I", false)
  | 53 => ("QuarterBoardsModel", "isFull", "Z", false)
  | 54 => ("QuarterBoardsModel", "atQuarter", "[I", true)
  | 55 => ("QuarterBoardsModel", "atBoard", "[I", true)
  | 56 => ("QuarterBoardsModel", "atImage", "[I", true)
  | 57 => ("QuarterBoardsModel", "atOff", "[I", true)
  | 58 => ("QuarterBoardsModel", "isRemembered", "Z", false)
  | 59 => ("QuarterBoardsModel", "fBoardImage", "[I", true)
  | 60 => ("QuarterBoardsModel", "fBoardA", "[I", true)
  | 61 => ("QuarterBoardsModel", "fBoardB", "[I", true)
  | 62 => ("QuarterBoardsModel", "rImage", "[I", true)
  | 63 => ("QuarterBoardsModel", "rA", "[I", true)
  | 64 => ("QuarterBoardsModel", "rB", "[I", true)
  | 65 => ("QuarterBoardsModel", "needs", "I", false)
  | 66 => ("QuarterBoardsModel", "setMany", "I", false)
  | 67 => ("QuarterBoardsModel", "cutParts", "I", false)
  | 68 => ("QuarterBoardsModel", "cutG", "I", false)
  | 69 => ("QuarterBoardsModel", "cutA", "I", false)
  | 70 => ("QuarterBoardsModel", "cutB", "I", false)
  | 71 => ("QuarterBoardsModel", "onTable", "[I", true)
  | 72 => ("QuarterBoardsModel", "lies", "[Z", true)
  | 73 => ("QuarterBoardsModel", "claims", "I", false)
  | 74 => ("QuarterBoardsModel", "player", "[I", true)
  | 75 => ("QuarterBoardsModel", "claimOutline", "[I", true)
  | 76 => ("QuarterBoardsModel", "claimSet", "[I", true)
  | 77 => ("QuarterBoardsModel", "verdicts", "[I", true)
  | 78 => ("QuarterBoardsModel", "voids", "[I", true)
  | _ => ("QuarterBoardsModel", "shown", "[Z", true)
def ty_Mo : Nat → FieldType := fun k => match k with
  | 0 => .int
  | 1 => .array .byte
  | 2 => .int
  | 3 => .array .byte
  | 4 => .int
  | 5 => .array .int
  | 6 => .array .int
  | 7 => .array .int
  | 8 => .array .long
  | 9 => .array .long
  | 10 => .int
  | 11 => .int
  | 12 => .int
  | 13 => .int
  | 14 => .int
  | 15 => .int
  | 16 => .int
  | 17 => .int
  | 18 => .array .boolean
  | 19 => .int
  | 20 => .int
  | 21 => .array .int
  | 22 => .array .int
  | 23 => .int
  | 24 => .array .long
  | 25 => .array .int
  | 26 => .array .boolean
  | 27 => .array .int
  | 28 => .array .int
  | 29 => .int
  | 30 => .array .int
  | 31 => .array .int
  | 32 => .array .int
  | 33 => .array .int
  | 34 => .array .int
  | 35 => .array .int
  | 36 => .array .int
  | 37 => .array .int
  | 38 => .array .int
  | 39 => .array .int
  | 40 => .int
  | 41 => .array .int
  | 42 => .array .boolean
  | 43 => .int
  | 44 => .array .boolean
  | 45 => .array .int
  | 46 => .array .int
  | 47 => .array .boolean
  | 48 => .boolean
  | 49 => .array .boolean
  | 50 => .int
  | 51 => .int
  | 52 => .int
  | 53 => .boolean
  | 54 => .array .int
  | 55 => .array .int
  | 56 => .array .int
  | 57 => .array .int
  | 58 => .boolean
  | 59 => .array .int
  | 60 => .array .int
  | 61 => .array .int
  | 62 => .array .int
  | 63 => .array .int
  | 64 => .array .int
  | 65 => .int
  | 66 => .int
  | 67 => .int
  | 68 => .int
  | 69 => .int
  | 70 => .int
  | 71 => .array .int
  | 72 => .array .boolean
  | 73 => .int
  | 74 => .array .int
  | 75 => .array .int
  | 76 => .array .int
  | 77 => .array .int
  | 78 => .array .int
  | _ => .array .boolean
theorem nm_Mo : ∀ a, a < 80 → ∀ b, b < 80 → a ≠ b → (T_Mo a).2.1 ≠ (T_Mo b).2.1 := by decide +kernel
theorem tyok_Mo : ∀ k, k < 80 → parseFieldDescriptor (T_Mo k).2.2.1 = some (ty_Mo k) := by decide +kernel
theorem iw_Mo : ∀ w ∈ u_ws R_Mo T_Mo 80, w ∈ gT := gT_ws [1480, 1482, 1484, 1486, 1488, 1490, 1492, 1494, 1496, 1498, 1500, 1502, 1504, 1506, 1508, 1510, 1512, 1514, 1516, 1518, 1520, 1522, 1524, 1526, 1528, 1530, 1532, 1534, 1536, 1538, 1540, 1542, 1544, 1546, 1548, 1550, 1552, 1554, 1556, 1558, 1560, 1562, 1564, 1566, 1568, 1570, 1572, 1574, 1576, 1578, 1580, 1582, 1584, 1586, 1588, 1590, 1592, 1594, 1596, 1598, 1600, 1602, 1604, 1606, 1608, 1610, 1612, 1614, 1616, 1618, 1620, 1622, 1624, 1626, 1628, 1630, 1632, 1634, 1636, 1638] (by decide +kernel) (by decide +kernel)
def classes : List vw_C := [(R_Book, T_Book, 7), (R_Builder, T_Builder, 11), (R_Cutter, T_Cutter, 10), (R_Filler, T_Filler, 12), (R_Form, T_Form, 7), (R_Meaning, T_Meaning, 7), (R_Measure, T_Measure, 3), (R_Shape, T_Shape, 1), (R_Syntax, T_Syntax, 5), (R_Table, T_Table, 5), (R_Tokens, T_Tokens, 8), (R_Q, T_Q, 17), (R_Mo, T_Mo, 80)]
def qty (ci : Nat) : Nat → FieldType := match ci with
  | 0 => ty_Book
  | 1 => ty_Builder
  | 2 => ty_Cutter
  | 3 => ty_Filler
  | 4 => ty_Form
  | 5 => ty_Meaning
  | 6 => ty_Measure
  | 7 => ty_Shape
  | 8 => ty_Syntax
  | 9 => ty_Table
  | 10 => ty_Tokens
  | 11 => ty_Q
  | _ => ty_Mo
def qnf (ci : Nat) : Nat := match ci with
  | 0 => 7
  | 1 => 11
  | 2 => 10
  | 3 => 12
  | 4 => 7
  | 5 => 7
  | 6 => 3
  | 7 => 1
  | 8 => 5
  | 9 => 5
  | 10 => 8
  | 11 => 17
  | _ => 80
end
section
/-! ===== the core: the world from place B on, told by a pure memory; EV: a frame of a method comes to its end ===== -/
abbrev Lv : Type := List (Option Value)
abbrev MT : Type := MethodName × ByteArray × Nat × Option FieldType
abbrev DD : Type := Nat × Nat
abbrev ML : Type := Nat × (Nat → DD) × (Nat → Nat → Option Nat)
abbrev MM : Type := ML × (Nat → Nat → Int32) × (Nat → Nat → Int64)
/-- ids of the launch: class numbers, array classes, B, the strings' places -/
abbrev QX : Type := va_G × (Nat → ClassId) × Nat × (Nat → Nat) × (Nat → Nat)
def shV (B : Nat) (v : Value) : Value := match v with
  | .ref a => .ref (B + a)
  | .retAddr a => .ref a
  | .int x => .int x
  | .long x => .long x
  | .float x => .float x
  | .double x => .double x
  | .null => .null
theorem shV_cat (B : Nat) (v : Value) : (shV B v).category = v.category := by cases v <;> rfl
def vr (r : Option Nat) : Value := match r with
  | none => .null
  | some a => .ref a
def shO (B : Nat) (r : Option Nat) : Option Nat := r.map (fun a => B + a)
theorem shV_vr (B : Nat) (r : Option Nat) : shV B (vr r) = va_rf (shO B r) := by cases r <;> rfl
def qfv (B : Nat) (M : MM) (a k : Nat) (t : FieldType) : Value := match t with
  | .long => .long (M.2.2 a k)
  | .object _ => va_rf (shO B (M.1.2.2 a k))
  | .array _ => va_rf (shO B (M.1.2.2 a k))
  | _ => .int (M.2.1 a k)
def qfs (B : Nat) (M : MM) (a ci : Nat) : List Value := (List.range (qnf ci)).map (fun k => qfv B M a k (qty ci k))
/-- what the cell a holds: an object of a class below 100; 100 ints, 101 bytes, 102 booleans, 103 longs, 104.. references -/
def qent (x : QX) (M : MM) (a : Nat) : va_E :=
  if (M.1.2.1 a).1 < 100 then .inr ((M.1.2.1 a).1, qfs x.2.2.1 M a (M.1.2.1 a).1)
  else if (M.1.2.1 a).1 = 103 then .inl (x.2.1 3, (M.1.2.1 a).2, .inr (.inl (M.2.2 a)))
  else if (M.1.2.1 a).1 < 104 then .inl (x.2.1 ((M.1.2.1 a).1 - 100), (M.1.2.1 a).2, .inl (M.2.1 a))
  else .inl (x.2.1 ((M.1.2.1 a).1 - 100), (M.1.2.1 a).2, .inr (.inr (.inr (.inr (fun j => shO x.2.2.1 (M.1.2.2 a j))))))
def wsOf (x : QX) (M : MM) : va_W := (List.range M.1.1).map (fun a => (x.2.2.1 + a, qent x M a))
def tysOf (x : QX) : List (ClassId × FieldType) := [(x.2.1 0, .int), (x.2.1 1, .byte), (x.2.1 2, .boolean), (x.2.1 3, .long), (x.2.1 4, .object "QuarterBoards$Shape"), (x.2.1 5, .object "QuarterBoards$Form"), (x.2.1 6, .array .int)]
def qA (x : QX) : Nat → Prop := fun q => x.2.2.1 ≤ q
def lens2 : List Nat := [80, 7]
def byts2 : List (List Int32) := [[98, 111, 97, 114, 100, 32, 32, 32, 111, 117, 116, 108, 105, 110, 101, 32, 116, 117, 114, 110, 32, 32, 32, 32, 102, 108, 105, 112, 32, 32, 32, 32, 98, 97, 115, 101, 32, 32, 32, 32, 115, 104, 105, 102, 116, 32, 32, 32, 99, 101, 108, 108, 32, 32, 32, 32, 98, 111, 120, 32, 32, 32, 32, 32, 104, 97, 108, 102, 32, 32, 32, 32, 113, 117, 97, 114, 116, 101, 114, 32], [59, 61, 43, 45, 38, 40, 41]]
def txW : String := "board   outline turn    flip    base    shift   cell    box     half    quarter "
def txS : String := ";=+-&()"
def nestL : List Cond := lw_tbl.filter (fun w => match w with | .methodLinkNest .. => true | _ => false)
/-- the tables' side of the world -/
def KC (x : QX) (U : State) : Prop := va_K x.1 classes (tysOf x) U ∧ (∀ w ∈ nestL, va_Nw w U) ∧ vk_R R_Tokens 38 txW (x.2.2.2.1 0) U ∧ vk_R R_Tokens 70 txS (x.2.2.2.1 1) U
/-- strings and statics, below B -/
def SC (x : QX) (U : State) (H : Heap) : Prop := vk_S 2 lens2 byts2 x.2.2.2.1 x.2.2.2.2 (qA x) U H ∧ va_Z "java/lang/String" "COMPACT_STRINGS" "Z" (.int 1) (qA x) U H
def Rp (x : QX) (M : MM) (H : Heap) : Prop := H.size = x.2.2.1 + M.1.1 ∧ va_P x.1 classes (wsOf x M) H ∧ ∀ a, M.1.1 ≤ a → (M.1.2.1 a).1 = 999
theorem nest_is {w : Cond} (h : w ∈ nestL) : ∃ a i y hh, w = .methodLinkNest a i y hh := by
  have h2 := (List.mem_filter.mp h).2
  cases w <;> simp at h2
  exact ⟨_, _, _, _, rfl⟩
theorem KC.warm {x : QX} {s U : State} (hW : s.WarmedH U.vm) (h : KC x s) : KC x U := by
  refine ⟨va_K.moved hW.alike h.1, fun w hw => ?_, h.2.2.1.warm hW, h.2.2.2.warm hW⟩
  obtain ⟨a, i, y, hh, rfl⟩ := nest_is hw
  exact va_Nw.warmM hW (h.2.1 _ hw)
theorem KC.same {x : QX} {s U : State} (hv : s.vm = U.vm) (h : KC x s) : KC x U := by
  refine ⟨va_K.moved (by rw [hv]; exact Vm.Alike.refl _) h.1, fun w hw => ?_, vk_R.same hv.symm h.2.2.1, vk_R.same hv.symm h.2.2.2⟩
  obtain ⟨a, i, y, hh, rfl⟩ := nest_is hw
  exact va_Nw.same rfl hv (h.2.1 _ hw)
theorem SC.moved {x : QX} {s U : State} {H : Heap} (hv : s.vm.Alike U.vm) (h : SC x s H) : SC x U H := ⟨h.1.moved hv, h.2.moved hv⟩
theorem SC.kept {x : QX} {U : State} {H H1 : Heap} (h : SC x U H) (hq : ∀ a : Nat, a < H.size → ¬ qA x a → H1[a]? = H[a]?) : SC x U H1 := ⟨h.1.kept hq, h.2.kept hq⟩
theorem ws_get {x : QX} {M : MM} {a : Nat} (h : a < M.1.1) : (wsOf x M)[a]? = some (x.2.2.1 + a, qent x M a) := by
  simp [wsOf, h]
theorem ws_len (x : QX) (M : MM) : (wsOf x M).length = M.1.1 := by simp [wsOf]
theorem ws_D (x : QX) (M : MM) : va_D (qA x) (wsOf x M) := by
  refine ⟨fun i j p q hi hj e => ?_, fun k q hk => ?_⟩
  · have h1 : i < M.1.1 := by have := (List.getElem?_eq_some_iff.mp hi).1; rwa [ws_len] at this
    have h2 : j < M.1.1 := by have := (List.getElem?_eq_some_iff.mp hj).1; rwa [ws_len] at this
    rw [ws_get h1] at hi; rw [ws_get h2] at hj
    cases hi; cases hj
    exact Nat.add_left_cancel e
  · have h1 : k < M.1.1 := by have := (List.getElem?_eq_some_iff.mp hk).1; rwa [ws_len] at this
    rw [ws_get h1] at hk
    cases hk
    exact Nat.le_add_right _ _
theorem ws_set {x : QX} {M M1 : MM} {a : Nat} {e : va_E} (hn : M1.1.1 = M.1.1) (ha : a < M.1.1) (he : qent x M1 a = e) (ho : ∀ b, b ≠ a → qent x M1 b = qent x M b) : (wsOf x M).set a (x.2.2.1 + a, e) = wsOf x M1 := by
  apply List.ext_getElem?
  intro b
  rw [List.getElem?_set]
  by_cases hb : b < M.1.1
  · have hb1 : b < M1.1.1 := by rw [hn]; exact hb
    by_cases hab : a = b
    · subst hab
      rw [if_pos rfl, ws_get hb1, ws_len, if_pos ha, he]
    · rw [if_neg hab, ws_get hb, ws_get hb1, ho b (fun q => hab q.symm)]
  · have h1 : ¬ b < M1.1.1 := by rw [hn]; exact hb
    rw [if_neg (by omega)]
    rw [List.getElem?_eq_none (by rw [ws_len]; omega), List.getElem?_eq_none (by rw [ws_len]; omega)]
theorem Rp.lt {x : QX} {M : MM} {H : Heap} (h : Rp x M H) {a : Nat} (ha : (M.1.2.1 a).1 ≠ 999) : a < M.1.1 := by
  rcases Nat.lt_or_ge a M.1.1 with q | q
  · exact q
  · exact absurd (h.2.2 a q) ha
/-! the locals -/
def prs (B : Nat) : Nat → Lv → List (Nat × Value)
  | _, [] => []
  | i, none :: r => prs B (i + 1) r
  | i, some v :: r => (i, shV B v) :: prs B (i + 1) r
theorem prs_mem {B : Nat} : ∀ (ls : Lv) (i : Nat) (q : Nat × Value), q ∈ prs B i ls ↔ ∃ j v, ls[j]? = some (some v) ∧ q = (i + j, shV B v)
  | [], i, q => by simp [prs]
  | none :: r, i, q => by
    rw [prs, prs_mem r (i + 1) q]
    constructor
    · rintro ⟨j, v, h, rfl⟩
      exact ⟨j + 1, v, by simpa using h, by rw [show i + 1 + j = i + (j + 1) by omega]⟩
    · rintro ⟨j, v, h, rfl⟩
      cases j with
      | zero => simp at h
      | succ j => exact ⟨j, v, by simpa using h, by rw [show i + 1 + j = i + (j + 1) by omega]⟩
  | some w :: r, i, q => by
    rw [prs, List.mem_cons, prs_mem r (i + 1) q]
    constructor
    · rintro (rfl | ⟨j, v, h, rfl⟩)
      · exact ⟨0, w, rfl, rfl⟩
      · exact ⟨j + 1, v, by simpa using h, by rw [show i + 1 + j = i + (j + 1) by omega]⟩
    · rintro ⟨j, v, h, rfl⟩
      cases j with
      | zero => left; simp at h; rw [h]; rfl
      | succ j => right; exact ⟨j, v, by simpa using h, by rw [show i + 1 + j = i + (j + 1) by omega]⟩
def lvo (B : Nat) (A : Array Slot) (n : Nat) (ls : Lv) : Prop := lv_has A n (prs B 0 ls)
theorem lvo_at {B : Nat} {A : Array Slot} {n : Nat} {ls : Lv} (h : lvo B A n ls) {i : Nat} {v : Value} (hi : ls[i]? = some (some v)) : A[i]? = some (.val (shV B v)) := by
  have h1 := h.2.2 (i, shV B v) ((prs_mem ls 0 _).mpr ⟨i, v, hi, by simp⟩)
  exact h1
theorem lvo_sub {B : Nat} {A : Array Slot} {n : Nat} {ls ls' : Lv} (h : lvo B A n ls) (hs : ∀ (i : Nat) (v : Value), ls'[i]? = some (some v) → ls[i]? = some (some v)) : lvo B A n ls' := by
  refine ⟨h.1, h.2.1, fun q hq => ?_⟩
  obtain ⟨j, v, hj, rfl⟩ := (prs_mem ls' 0 q).mp hq
  have := lvo_at h (hs j v hj)
  simpa using this
/-- the place ahead of i holds no long -/
def okP (ls : Lv) (i : Nat) : Bool := match i with
  | 0 => true
  | j + 1 => match ls[j]? with
    | some (some v) => v.category == 1
    | _ => true
theorem lvo_set1 {B : Nat} {A' : Array Slot} {n i : Nat} {ls : Lv} {v : Value} (hp : okP ls i = true)
    (h : lv_has A' n ((i, shV B v) :: (prs B 0 ls).filter (fun q => !(q.1 == i) && !(q.1 + 1 == i && q.2.category == 2)))) : lvo B A' n (ls.set i (some v)) := by
  refine ⟨h.1, h.2.1, fun q hq => ?_⟩
  obtain ⟨j, w, hj, rfl⟩ := (prs_mem _ 0 q).mp hq
  apply h.2.2
  rw [List.getElem?_set] at hj
  by_cases hij : i = j
  · subst hij
    rw [if_pos rfl] at hj
    split at hj
    · cases hj; simp
    · cases hj
  · rw [if_neg hij] at hj
    refine List.mem_cons_of_mem _ (List.mem_filter.mpr ⟨(prs_mem ls 0 _).mpr ⟨j, w, hj, rfl⟩, ?_⟩)
    simp only [Nat.zero_add, Bool.and_eq_true, Bool.not_eq_true', beq_eq_false_iff_ne, Bool.and_eq_false_iff, shV_cat]
    refine ⟨fun e => hij e.symm, ?_⟩
    by_cases hj1 : j + 1 = i
    · right
      subst hj1
      simp only [okP, hj] at hp
      have : w.category = 1 := by simpa using hp
      rw [this]; decide
    · exact Or.inl hj1
theorem lvo_set2 {B : Nat} {A' : Array Slot} {n i : Nat} {ls : Lv} {v : Value} (hp : okP ls i = true)
    (h : lv_has A' n ((i, shV B v) :: (prs B 0 ls).filter (fun q => !(q.1 == i) && (!(q.1 == i + 1) && !(q.1 + 1 == i && q.2.category == 2))))) : lvo B A' n ((ls.set i (some v)).set (i + 1) none) := by
  refine ⟨h.1, h.2.1, fun q hq => ?_⟩
  obtain ⟨j, w, hj, rfl⟩ := (prs_mem _ 0 q).mp hq
  apply h.2.2
  rw [List.getElem?_set] at hj
  by_cases hij : i + 1 = j
  · subst hij
    rw [if_pos rfl] at hj
    split at hj <;> cases hj
  · rw [if_neg hij, List.getElem?_set] at hj
    by_cases hij2 : i = j
    · subst hij2
      rw [if_pos rfl] at hj
      split at hj
      · cases hj; simp
      · cases hj
    · rw [if_neg hij2] at hj
      refine List.mem_cons_of_mem _ (List.mem_filter.mpr ⟨(prs_mem ls 0 _).mpr ⟨j, w, hj, rfl⟩, ?_⟩)
      simp only [Nat.zero_add, Bool.and_eq_true, Bool.not_eq_true', beq_eq_false_iff_ne, Bool.and_eq_false_iff, shV_cat]
      refine ⟨fun e => hij2 e.symm, fun e => hij e.symm, ?_⟩
      by_cases hj1 : j + 1 = i
      · right
        subst hj1
        simp only [okP, hj] at hp
        have : w.category = 1 := by simpa using hp
        rw [this]; decide
      · exact Or.inl hj1
/-! the judgement -/
def QR (x : QX) (res : Option Value) (M' : MM) : Array Value → State → Outcome → State → Prop := fun _ st oc t =>
  oc = .returned (res.map (shV x.2.2.1)) ∧ Rp x M' t.heap ∧ va_F (qA x) st t
/-- what is fixed in a frame of the method mt -/
def CX (x : QX) (mt : MT) (p : Program) (s : State) (m : MethodId) (args : Array Value) (meth : Method) (c : Code) : Prop :=
  p.tables.exec = Jvm.exec ∧ c.code = mt.2.1 ∧ meth.sig.returnType = mt.2.2.2 ∧ c.maxLocals = mt.2.2.1 ∧ s.vm.findClass mt.1.cls = some m.cls ∧ (∀ w ∈ gT, w.before args s = true) ∧ KC x s ∧ SC x s s.heap ∧ meth.locks = false ∧ meth.name = mt.1.name ∧ x.2.2.1 ≤ s.heap.size
/-- from pc, with these locals, this stack, this memory, k cells of n slots made so far, the method mt returns res and leaves M' -/
def EV (mt : MT) (R : Room) (res : Option Value) (M' : MM) (k n pc : Nat) (ls : Lv) (st : List Value) (M : MM) : Prop :=
  ∀ (x : QX) (p : Program) (l : Launch) (e : Env) (s : State) (m : MethodId) (args : Array Value) (below : List Frame) (meth : Method) (c : Code) (H : Heap) (locs : List Loc) (A : Array Slot),
    CX x mt p s m args meth c → Rp x M H → va_S (qA x) s.heap H locs → lvo x.2.2.1 A mt.2.2.1 ls →
    W p l e R s m args below meth c H locs k n (MQ below (QR x res M') args s R.cells R.slots (qA x)) (F0 m pc A (st.map (shV x.2.2.1)))
def PreM (x : QX) (args : List Value) (M : MM) : Array Value → State → Prop := va_Pc (args.map (shV x.2.2.1)) (fun U => Rp x M U.heap ∧ KC x U ∧ SC x U U.heap)
def wsM (mt : MT) : List Cond := Cond.code mt.1 mt.2.1 mt.2.2.1 mt.2.2.2 :: gT
/-- the contract: called with args in M, mt returns res and leaves M' -/
def CT (mt : MT) (R : Room) (args : List Value) (M : MM) (res : Option Value) (M' : MM) : Prop :=
  ∀ (l : Launch) (x : QX), Met l mt.1 (wsM mt) R (PreM x args M) (QR x res M') R.cells R.slots (qA x)
/-- at pc stands i, of len bytes, ahead of p2 -/
def DC (mt : MT) (pc : Nat) (i : Instr) (len p2 : Nat) : Prop := decode mt.2.1 pc = .ok (i, len) ∧ pc + len = p2
/-- the locals at the entry -/
def lv0 (args : List Value) (n : Nat) : Lv := (args.flatMap fun v => if v.category = 2 then [some v, none] else [some v]) ++ List.replicate (n - (args.flatMap fun v => if v.category = 2 then [some v, none] else [some v]).length) none
theorem prs_app {B : Nat} : ∀ (a b : Lv) (i : Nat), prs B i (a ++ b) = prs B i a ++ prs B (i + a.length) b
  | [], b, i => by simp [prs]
  | none :: r, b, i => by simp only [List.cons_append, prs, List.length_cons]; rw [prs_app r b (i + 1), show i + 1 + r.length = i + (r.length + 1) by omega]
  | some v :: r, b, i => by simp only [List.cons_append, prs, List.length_cons]; rw [prs_app r b (i + 1), show i + 1 + r.length = i + (r.length + 1) by omega]
theorem prs_none {B : Nat} : ∀ (n i : Nat), prs B i (List.replicate n none) = []
  | 0, i => rfl
  | n + 1, i => by rw [List.replicate_succ, prs, prs_none n]
theorem prs_args (B : Nat) : ∀ (args : List Value) (i : Nat), prs B i (args.flatMap fun v => if v.category = 2 then [some v, none] else [some v]) = lv_args i (args.map (shV B))
  | [], i => rfl
  | v :: r, i => by
    rw [List.flatMap_cons, prs_app]
    by_cases h : v.category = 2
    · rw [if_pos h]
      simp only [prs, List.map_cons, lv_args, List.length_cons, List.length_nil, shV_cat, h]
      rw [prs_args B r]; rfl
    · rw [if_neg h]
      have h1 : v.category = 1 := by rcases lv_cat v with q | q; exact q; exact absurd q h
      simp only [prs, List.map_cons, lv_args, List.length_cons, List.length_nil, shV_cat, h1]
      rw [prs_args B r]; rfl
end
section
/-! ===== one rule an instruction ===== -/
theorem EV.weaken {mt : MT} {R : Room} {res : Option Value} {M' : MM} {k n pc : Nat} {ls ls' : Lv} {st : List Value} {M : MM} (hs : ∀ (i : Nat) (v : Value), ls'[i]? = some (some v) → ls[i]? = some (some v)) (h : EV mt R res M' k n pc ls' st M) : EV mt R res M' k n pc ls st M :=
  fun X p l e s m args below meth c H locs A hC hR hS hl => h X p l e s m args below meth c H locs A hC hR hS (lvo_sub hl hs)
/-- fewer locals known, place by place -/
def LSub : Lv → Lv → Prop
  | [], _ => True
  | none :: a, b => LSub a b.tail
  | some v :: a, b => b.head? = some (some v) ∧ LSub a b.tail
theorem LSub.at : ∀ {a b : Lv}, LSub a b → ∀ (i : Nat) (v : Value), a[i]? = some (some v) → b[i]? = some (some v)
  | [], b, _, i, v, h => by simp at h
  | none :: a, b, hs, i, v, h => by
    cases i with
    | zero => simp at h
    | succ i =>
      have := LSub.at (show LSub a b.tail from hs) i v (by simpa using h)
      cases b with
      | nil => simp at this
      | cons w b => simpa using this
  | some w :: a, b, hs, i, v, h => by
    cases b with
    | nil => exact absurd hs.1 (by simp)
    | cons u b =>
      cases i with
      | zero => have h1 := hs.1; simp at h1 h ⊢; rw [h1, h]
      | succ i => simpa using LSub.at (show LSub a b from hs.2) i v (by simpa using h)
theorem EV.less {mt : MT} {R : Room} {res : Option Value} {M' : MM} {k n pc : Nat} {ls ls' : Lv} {st : List Value} {M : MM} (h : EV mt R res M' k n pc ls' st M) (hs : LSub ls' ls) : EV mt R res M' k n pc ls st M := EV.weaken (LSub.at hs) h
section RULES
variable {mt : MT} {R : Room} {res : Option Value} {M' : MM} {k n pc p2 : Nat} {ls : Lv} {st : List Value} {M : MM}
theorem e_iconst {v : Int32} {z : Int} (h : DC mt pc (.iconst z) 1 p2) (hv : Int32.ofInt z = v) (nx : EV mt R res M' k n p2 ls (.int v :: st) M) : EV mt R res M' k n pc ls (st) M := by
  intro X p l e s m args below meth c H locs A hC hR hS hl
  obtain ⟨h, rfl⟩ := h
  exact lv_iconst hC.1 hC.2.1 h hv (nx X p l e s m args below meth c H locs A hC hR hS hl)
theorem e_bipush {v : Int32} {z : Int} (h : DC mt pc (.bipush z) 2 p2) (hv : (Int8.ofInt z).toInt32 = v) (nx : EV mt R res M' k n p2 ls (.int v :: st) M) : EV mt R res M' k n pc ls (st) M := by
  intro X p l e s m args below meth c H locs A hC hR hS hl
  obtain ⟨h, rfl⟩ := h
  exact lv_bipush hC.1 hC.2.1 h hv (nx X p l e s m args below meth c H locs A hC hR hS hl)
theorem e_sipush {v : Int32} {z : Int} (h : DC mt pc (.sipush z) 3 p2) (hv : (Int16.ofInt z).toInt32 = v) (nx : EV mt R res M' k n p2 ls (.int v :: st) M) : EV mt R res M' k n pc ls (st) M := by
  intro X p l e s m args below meth c H locs A hC hR hS hl
  obtain ⟨h, rfl⟩ := h
  exact lv_sipush hC.1 hC.2.1 h hv (nx X p l e s m args below meth c H locs A hC hR hS hl)
theorem e_lconst {v : Int64} {z : Fin 2} (h : DC mt pc (.lconst z) 1 p2) (hv : Int64.ofNat (z : Nat) = v) (nx : EV mt R res M' k n p2 ls (.long v :: st) M) : EV mt R res M' k n pc ls (st) M := by
  intro X p l e s m args below meth c H locs A hC hR hS hl
  obtain ⟨h, rfl⟩ := h
  exact lv_lconst hC.1 hC.2.1 h hv (nx X p l e s m args below meth c H locs A hC hR hS hl)
theorem e_ldc {v : Int32} {ix : Nat} (h : DC mt pc (.ldc ix) 2 p2) (hg : Cond.constant mt.1.cls ix v ∈ gT) (nx : EV mt R res M' k n p2 ls (.int v :: st) M) : EV mt R res M' k n pc ls (st) M := by
  intro X p l e s m args below meth c H locs A hC hR hS hl
  obtain ⟨h, rfl⟩ := h
  exact lv_ldc hC.1 hC.2.1 hC.2.2.2.2.1 (hC.2.2.2.2.2.1 _ hg) h (nx X p l e s m args below meth c H locs A hC hR hS hl)
theorem e_ldcw {v : Int32} {ix : Nat} (h : DC mt pc (.ldc_w ix) 3 p2) (hg : Cond.constant mt.1.cls ix v ∈ gT) (nx : EV mt R res M' k n p2 ls (.int v :: st) M) : EV mt R res M' k n pc ls (st) M := by
  intro X p l e s m args below meth c H locs A hC hR hS hl
  obtain ⟨h, rfl⟩ := h
  exact lv_ldcw hC.1 hC.2.1 hC.2.2.2.2.1 (hC.2.2.2.2.2.1 _ hg) h (nx X p l e s m args below meth c H locs A hC hR hS hl)
theorem e_ldc2 {v : Int64} {ix : Nat} (h : DC mt pc (.ldc2_w ix) 3 p2) (hg : Cond.constantLong mt.1.cls ix v ∈ gT) (nx : EV mt R res M' k n p2 ls (.long v :: st) M) : EV mt R res M' k n pc ls (st) M := by
  intro X p l e s m args below meth c H locs A hC hR hS hl
  obtain ⟨h, rfl⟩ := h
  exact lv_ldc2 hC.1 hC.2.1 hC.2.2.2.2.1 (hC.2.2.2.2.2.1 _ hg) h (nx X p l e s m args below meth c H locs A hC hR hS hl)
theorem e_null (h : DC mt pc .aconst_null 1 p2) (nx : EV mt R res M' k n p2 ls (.null :: st) M) : EV mt R res M' k n pc ls (st) M := by
  intro X p l e s m args below meth c H locs A hC hR hS hl
  obtain ⟨h, rfl⟩ := h
  exact lv_null hC.1 hC.2.1 h (nx X p l e s m args below meth c H locs A hC hR hS hl)
theorem e_iload {i : Nat} {x : Int32} (h : DC mt pc (.iload i) 2 p2) (hi : ls[i]? = some (some (.int x))) (nx : EV mt R res M' k n p2 ls (.int x :: st) M) : EV mt R res M' k n pc ls (st) M := by
  intro X p l e s m args below meth c H locs A hC hR hS hl
  obtain ⟨h, rfl⟩ := h
  exact lv_iload hC.1 hC.2.1 h (lvo_at hl hi) (nx X p l e s m args below meth c H locs A hC hR hS hl)
theorem e_iload_n {i : Fin 4} {x : Int32} (h : DC mt pc (.iload_n i) 1 p2) (hi : ls[(i : Nat)]? = some (some (.int x))) (nx : EV mt R res M' k n p2 ls (.int x :: st) M) : EV mt R res M' k n pc ls (st) M := by
  intro X p l e s m args below meth c H locs A hC hR hS hl
  obtain ⟨h, rfl⟩ := h
  exact lv_iload_n hC.1 hC.2.1 h rfl (lvo_at hl hi) (nx X p l e s m args below meth c H locs A hC hR hS hl)
theorem e_lload {i : Nat} {x : Int64} (h : DC mt pc (.lload i) 2 p2) (hi : ls[i]? = some (some (.long x))) (nx : EV mt R res M' k n p2 ls (.long x :: st) M) : EV mt R res M' k n pc ls (st) M := by
  intro X p l e s m args below meth c H locs A hC hR hS hl
  obtain ⟨h, rfl⟩ := h
  exact lv_lload hC.1 hC.2.1 h (lvo_at hl hi) (nx X p l e s m args below meth c H locs A hC hR hS hl)
theorem e_lload_n {i : Fin 4} {x : Int64} (h : DC mt pc (.lload_n i) 1 p2) (hi : ls[(i : Nat)]? = some (some (.long x))) (nx : EV mt R res M' k n p2 ls (.long x :: st) M) : EV mt R res M' k n pc ls (st) M := by
  intro X p l e s m args below meth c H locs A hC hR hS hl
  obtain ⟨h, rfl⟩ := h
  exact lv_lload_n hC.1 hC.2.1 h rfl (lvo_at hl hi) (nx X p l e s m args below meth c H locs A hC hR hS hl)
theorem e_aload {i : Nat} {x : Nat} (h : DC mt pc (.aload i) 2 p2) (hi : ls[i]? = some (some (.ref x))) (nx : EV mt R res M' k n p2 ls (.ref x :: st) M) : EV mt R res M' k n pc ls (st) M := by
  intro X p l e s m args below meth c H locs A hC hR hS hl
  obtain ⟨h, rfl⟩ := h
  exact lv_aload hC.1 hC.2.1 h (lvo_at hl hi) (nx X p l e s m args below meth c H locs A hC hR hS hl)
theorem e_aload_n {i : Fin 4} {x : Nat} (h : DC mt pc (.aload_n i) 1 p2) (hi : ls[(i : Nat)]? = some (some (.ref x))) (nx : EV mt R res M' k n p2 ls (.ref x :: st) M) : EV mt R res M' k n pc ls (st) M := by
  intro X p l e s m args below meth c H locs A hC hR hS hl
  obtain ⟨h, rfl⟩ := h
  exact lv_aload_n hC.1 hC.2.1 h rfl (lvo_at hl hi) (nx X p l e s m args below meth c H locs A hC hR hS hl)
theorem e_aloadN {i : Nat} (h : DC mt pc (.aload i) 2 p2) (hi : ls[i]? = some (some .null)) (nx : EV mt R res M' k n p2 ls (.null :: st) M) : EV mt R res M' k n pc ls (st) M := by
  intro X p l e s m args below meth c H locs A hC hR hS hl
  obtain ⟨h, rfl⟩ := h
  exact lv_aloadN hC.1 hC.2.1 h (lvo_at hl hi) (nx X p l e s m args below meth c H locs A hC hR hS hl)
theorem e_aload_nN {i : Fin 4} (h : DC mt pc (.aload_n i) 1 p2) (hi : ls[(i : Nat)]? = some (some .null)) (nx : EV mt R res M' k n p2 ls (.null :: st) M) : EV mt R res M' k n pc ls (st) M := by
  intro X p l e s m args below meth c H locs A hC hR hS hl
  obtain ⟨h, rfl⟩ := h
  exact lv_aload_nN hC.1 hC.2.1 h rfl (lvo_at hl hi) (nx X p l e s m args below meth c H locs A hC hR hS hl)
theorem e_aloadX {i : Nat} {x : Nat} (h : DC mt pc (.aload i) 2 p2) (hi : ls[i]? = some (some (.retAddr x))) (nx : EV mt R res M' k n p2 ls (.retAddr x :: st) M) : EV mt R res M' k n pc ls (st) M := by
  intro X p l e s m args below meth c H locs A hC hR hS hl
  obtain ⟨h, rfl⟩ := h
  exact lv_aload hC.1 hC.2.1 h (lvo_at hl hi) (nx X p l e s m args below meth c H locs A hC hR hS hl)
theorem e_aload_nX {i : Fin 4} {x : Nat} (h : DC mt pc (.aload_n i) 1 p2) (hi : ls[(i : Nat)]? = some (some (.retAddr x))) (nx : EV mt R res M' k n p2 ls (.retAddr x :: st) M) : EV mt R res M' k n pc ls (st) M := by
  intro X p l e s m args below meth c H locs A hC hR hS hl
  obtain ⟨h, rfl⟩ := h
  exact lv_aload_n hC.1 hC.2.1 h rfl (lvo_at hl hi) (nx X p l e s m args below meth c H locs A hC hR hS hl)
theorem e_istore {i : Nat} {x : Int32} {l2 : Lv} (h : DC mt pc (.istore i) 2 p2) (hs : ls.set i (some (.int x)) = l2) (hn : i < mt.2.2.1) (hp : okP ls i = true) (nx : EV mt R res M' k n p2 l2 st M) : EV mt R res M' k n pc ls (.int x :: st) M := by
  intro X p l e s m args below meth c H locs A hC hR hS hl
  obtain ⟨h, rfl⟩ := h
  subst hs
  exact lv_istore hC.1 hC.2.1 h hl hn rfl (fun ls9 h9 => nx X p l e s m args below meth c H locs ls9 hC hR hS (lvo_set1 hp h9))
theorem e_istore_n {i : Fin 4} {x : Int32} {l2 : Lv} (h : DC mt pc (.istore_n i) 1 p2) (hs : ls.set i (some (.int x)) = l2) (hn : (i : Nat) < mt.2.2.1) (hp : okP ls i = true) (nx : EV mt R res M' k n p2 l2 st M) : EV mt R res M' k n pc ls (.int x :: st) M := by
  intro X p l e s m args below meth c H locs A hC hR hS hl
  obtain ⟨h, rfl⟩ := h
  subst hs
  exact lv_istore_n hC.1 hC.2.1 h rfl hl hn rfl (fun ls9 h9 => nx X p l e s m args below meth c H locs ls9 hC hR hS (lvo_set1 hp h9))
theorem e_astore {i : Nat} {x : Nat} {l2 : Lv} (h : DC mt pc (.astore i) 2 p2) (hs : ls.set i (some (.ref x)) = l2) (hn : i < mt.2.2.1) (hp : okP ls i = true) (nx : EV mt R res M' k n p2 l2 st M) : EV mt R res M' k n pc ls (.ref x :: st) M := by
  intro X p l e s m args below meth c H locs A hC hR hS hl
  obtain ⟨h, rfl⟩ := h
  subst hs
  exact lv_astore hC.1 hC.2.1 h hl hn rfl (fun ls9 h9 => nx X p l e s m args below meth c H locs ls9 hC hR hS (lvo_set1 hp h9))
theorem e_astore_n {i : Fin 4} {x : Nat} {l2 : Lv} (h : DC mt pc (.astore_n i) 1 p2) (hs : ls.set i (some (.ref x)) = l2) (hn : (i : Nat) < mt.2.2.1) (hp : okP ls i = true) (nx : EV mt R res M' k n p2 l2 st M) : EV mt R res M' k n pc ls (.ref x :: st) M := by
  intro X p l e s m args below meth c H locs A hC hR hS hl
  obtain ⟨h, rfl⟩ := h
  subst hs
  exact lv_astore_n hC.1 hC.2.1 h rfl hl hn rfl (fun ls9 h9 => nx X p l e s m args below meth c H locs ls9 hC hR hS (lvo_set1 hp h9))
theorem e_astoreN {i : Nat} {l2 : Lv} (h : DC mt pc (.astore i) 2 p2) (hs : ls.set i (some .null) = l2) (hn : i < mt.2.2.1) (hp : okP ls i = true) (nx : EV mt R res M' k n p2 l2 st M) : EV mt R res M' k n pc ls (.null :: st) M := by
  intro X p l e s m args below meth c H locs A hC hR hS hl
  obtain ⟨h, rfl⟩ := h
  subst hs
  exact lv_astoreN hC.1 hC.2.1 h hl hn rfl (fun ls9 h9 => nx X p l e s m args below meth c H locs ls9 hC hR hS (lvo_set1 hp h9))
theorem e_astore_nN {i : Fin 4} {l2 : Lv} (h : DC mt pc (.astore_n i) 1 p2) (hs : ls.set i (some .null) = l2) (hn : (i : Nat) < mt.2.2.1) (hp : okP ls i = true) (nx : EV mt R res M' k n p2 l2 st M) : EV mt R res M' k n pc ls (.null :: st) M := by
  intro X p l e s m args below meth c H locs A hC hR hS hl
  obtain ⟨h, rfl⟩ := h
  subst hs
  exact lv_astore_nN hC.1 hC.2.1 h rfl hl hn rfl (fun ls9 h9 => nx X p l e s m args below meth c H locs ls9 hC hR hS (lvo_set1 hp h9))
theorem e_lstore {i : Nat} {x : Int64} {l2 : Lv} (h : DC mt pc (.lstore i) 2 p2) (hs : (ls.set i (some (.long x))).set (i + 1) none = l2) (hn : i + 1 < mt.2.2.1) (hp : okP ls i = true) (nx : EV mt R res M' k n p2 l2 st M) : EV mt R res M' k n pc ls (.long x :: st) M := by
  intro X p l e s m args below meth c H locs A hC hR hS hl
  obtain ⟨h, rfl⟩ := h
  subst hs
  exact lv_lstore hC.1 hC.2.1 h hl hn rfl (fun ls9 h9 => nx X p l e s m args below meth c H locs ls9 hC hR hS (lvo_set2 hp h9))
theorem e_lstore_n {i : Fin 4} {x : Int64} {l2 : Lv} (h : DC mt pc (.lstore_n i) 1 p2) (hs : (ls.set i (some (.long x))).set (i + 1) none = l2) (hn : (i : Nat) + 1 < mt.2.2.1) (hp : okP ls i = true) (nx : EV mt R res M' k n p2 l2 st M) : EV mt R res M' k n pc ls (.long x :: st) M := by
  intro X p l e s m args below meth c H locs A hC hR hS hl
  obtain ⟨h, rfl⟩ := h
  subst hs
  exact lv_lstore_n hC.1 hC.2.1 h rfl hl hn rfl (fun ls9 h9 => nx X p l e s m args below meth c H locs ls9 hC hR hS (lvo_set2 hp h9))
theorem prs_idx {B i : Nat} {v : Value} {ls : Lv} (hi : ls[i]? = some (some v)) : ∃ j : Nat, (prs B 0 ls)[j]? = some (i, shV B v) :=
  List.getElem?_of_mem ((prs_mem ls 0 _).mpr ⟨i, v, hi, by simp⟩)
theorem e_iinc {i : Nat} {x v : Int32} {z : Int} {l2 : Lv} (h : DC mt pc (.iinc i z) 3 p2) (hi : ls[i]? = some (some (.int x))) (hv : x + Int32.ofInt z = v) (hs : ls.set i (some (.int v)) = l2) (hn : i < mt.2.2.1) (hp : okP ls i = true) (nx : EV mt R res M' k n p2 l2 st M) : EV mt R res M' k n pc ls st M := by
  intro X p l e s m args below meth c H locs A hC hR hS hl
  obtain ⟨h, rfl⟩ := h
  subst hs
  obtain ⟨j, hj⟩ := prs_idx (B := X.2.2.1) hi
  exact lv_iinc hC.1 hC.2.1 h hl hj hv hn rfl (fun ls9 h9 => nx X p l e s m args below meth c H locs ls9 hC hR hS (lvo_set1 hp h9))
theorem e_iadd {x y : Int32} (h : DC mt pc .iadd 1 p2) (nx : EV mt R res M' k n p2 ls (.int (x + y) :: st) M) : EV mt R res M' k n pc ls (.int y :: .int x :: st) M := by
  intro X p l e s m args below meth c H locs A hC hR hS hl
  obtain ⟨h, rfl⟩ := h
  exact lv_iadd hC.1 hC.2.1 h (nx X p l e s m args below meth c H locs A hC hR hS hl)
theorem e_isub {x y : Int32} (h : DC mt pc .isub 1 p2) (nx : EV mt R res M' k n p2 ls (.int (x - y) :: st) M) : EV mt R res M' k n pc ls (.int y :: .int x :: st) M := by
  intro X p l e s m args below meth c H locs A hC hR hS hl
  obtain ⟨h, rfl⟩ := h
  exact lv_isub hC.1 hC.2.1 h (nx X p l e s m args below meth c H locs A hC hR hS hl)
theorem e_imul {x y : Int32} (h : DC mt pc .imul 1 p2) (nx : EV mt R res M' k n p2 ls (.int (x * y) :: st) M) : EV mt R res M' k n pc ls (.int y :: .int x :: st) M := by
  intro X p l e s m args below meth c H locs A hC hR hS hl
  obtain ⟨h, rfl⟩ := h
  exact lv_imul hC.1 hC.2.1 h (nx X p l e s m args below meth c H locs A hC hR hS hl)
theorem e_iand {x y : Int32} (h : DC mt pc .iand 1 p2) (nx : EV mt R res M' k n p2 ls (.int (x &&& y) :: st) M) : EV mt R res M' k n pc ls (.int y :: .int x :: st) M := by
  intro X p l e s m args below meth c H locs A hC hR hS hl
  obtain ⟨h, rfl⟩ := h
  exact lv_iand hC.1 hC.2.1 h (nx X p l e s m args below meth c H locs A hC hR hS hl)
theorem e_ior {x y : Int32} (h : DC mt pc .ior 1 p2) (nx : EV mt R res M' k n p2 ls (.int (x ||| y) :: st) M) : EV mt R res M' k n pc ls (.int y :: .int x :: st) M := by
  intro X p l e s m args below meth c H locs A hC hR hS hl
  obtain ⟨h, rfl⟩ := h
  exact lv_ior hC.1 hC.2.1 h (nx X p l e s m args below meth c H locs A hC hR hS hl)
theorem e_ixor {x y : Int32} (h : DC mt pc .ixor 1 p2) (nx : EV mt R res M' k n p2 ls (.int (x ^^^ y) :: st) M) : EV mt R res M' k n pc ls (.int y :: .int x :: st) M := by
  intro X p l e s m args below meth c H locs A hC hR hS hl
  obtain ⟨h, rfl⟩ := h
  exact lv_ixor hC.1 hC.2.1 h (nx X p l e s m args below meth c H locs A hC hR hS hl)
theorem e_ladd {x y : Int64} (h : DC mt pc .ladd 1 p2) (nx : EV mt R res M' k n p2 ls (.long (x + y) :: st) M) : EV mt R res M' k n pc ls (.long y :: .long x :: st) M := by
  intro X p l e s m args below meth c H locs A hC hR hS hl
  obtain ⟨h, rfl⟩ := h
  exact lv_ladd hC.1 hC.2.1 h (nx X p l e s m args below meth c H locs A hC hR hS hl)
theorem e_lmul {x y : Int64} (h : DC mt pc .lmul 1 p2) (nx : EV mt R res M' k n p2 ls (.long (x * y) :: st) M) : EV mt R res M' k n pc ls (.long y :: .long x :: st) M := by
  intro X p l e s m args below meth c H locs A hC hR hS hl
  obtain ⟨h, rfl⟩ := h
  exact lv_lmul hC.1 hC.2.1 h (nx X p l e s m args below meth c H locs A hC hR hS hl)
theorem e_lor {x y : Int64} (h : DC mt pc .lor 1 p2) (nx : EV mt R res M' k n p2 ls (.long (x ||| y) :: st) M) : EV mt R res M' k n pc ls (.long y :: .long x :: st) M := by
  intro X p l e s m args below meth c H locs A hC hR hS hl
  obtain ⟨h, rfl⟩ := h
  exact lv_lor hC.1 hC.2.1 h (nx X p l e s m args below meth c H locs A hC hR hS hl)
theorem e_ishl {x y : Int32} (h : DC mt pc .ishl 1 p2) (nx : EV mt R res M' k n p2 ls (.int (x <<< (y &&& 31)) :: st) M) : EV mt R res M' k n pc ls (.int y :: .int x :: st) M := by
  intro X p l e s m args below meth c H locs A hC hR hS hl
  obtain ⟨h, rfl⟩ := h
  exact lv_ishl hC.1 hC.2.1 h (nx X p l e s m args below meth c H locs A hC hR hS hl)
theorem e_ishr {x y : Int32} (h : DC mt pc .ishr 1 p2) (nx : EV mt R res M' k n p2 ls (.int (x >>> (y &&& 31)) :: st) M) : EV mt R res M' k n pc ls (.int y :: .int x :: st) M := by
  intro X p l e s m args below meth c H locs A hC hR hS hl
  obtain ⟨h, rfl⟩ := h
  exact lv_ishr hC.1 hC.2.1 h (nx X p l e s m args below meth c H locs A hC hR hS hl)
def ushr (x y : Int32) : Int32 := (x.toUInt32 >>> (y.toUInt32 &&& Int32.toUInt32 31)).toInt32
abbrev lcp (x y : Int64) : Int32 := lg_cmp x y
def irm (x y : Int32) : Int32 := x - x / y * y
theorem e_iushr {x y : Int32} (h : DC mt pc .iushr 1 p2) (nx : EV mt R res M' k n p2 ls (.int (ushr x y) :: st) M) : EV mt R res M' k n pc ls (.int y :: .int x :: st) M := by
  intro X p l e s m args below meth c H locs A hC hR hS hl
  obtain ⟨h, rfl⟩ := h
  exact lv_iushr hC.1 hC.2.1 h rfl (nx X p l e s m args below meth c H locs A hC hR hS hl)
theorem e_lshl {x : Int64} {y : Int32} (h : DC mt pc .lshl 1 p2) (nx : EV mt R res M' k n p2 ls (.long (x <<< (y.toInt64 &&& 63)) :: st) M) : EV mt R res M' k n pc ls (.int y :: .long x :: st) M := by
  intro X p l e s m args below meth c H locs A hC hR hS hl
  obtain ⟨h, rfl⟩ := h
  exact lv_lshl hC.1 hC.2.1 h rfl (nx X p l e s m args below meth c H locs A hC hR hS hl)
theorem e_ineg {x : Int32} (h : DC mt pc .ineg 1 p2) (nx : EV mt R res M' k n p2 ls (.int (-x) :: st) M) : EV mt R res M' k n pc ls (.int x :: st) M := by
  intro X p l e s m args below meth c H locs A hC hR hS hl
  obtain ⟨h, rfl⟩ := h
  exact lv_ineg hC.1 hC.2.1 h (nx X p l e s m args below meth c H locs A hC hR hS hl)
theorem e_idiv {x y : Int32} (h : DC mt pc .idiv 1 p2) (hy : ¬ y = 0) (nx : EV mt R res M' k n p2 ls (.int (x / y) :: st) M) : EV mt R res M' k n pc ls (.int y :: .int x :: st) M := by
  intro X p l e s m args below meth c H locs A hC hR hS hl
  obtain ⟨h, rfl⟩ := h
  exact lv_idiv hC.1 hC.2.1 h hy (nx X p l e s m args below meth c H locs A hC hR hS hl)
theorem e_irem {x y : Int32} (h : DC mt pc .irem 1 p2) (hy : ¬ y = 0) (nx : EV mt R res M' k n p2 ls (.int (irm x y) :: st) M) : EV mt R res M' k n pc ls (.int y :: .int x :: st) M := by
  intro X p l e s m args below meth c H locs A hC hR hS hl
  obtain ⟨h, rfl⟩ := h
  exact lv_irem hC.1 hC.2.1 h hy (nx X p l e s m args below meth c H locs A hC hR hS hl)
theorem e_i2l {x : Int32} (h : DC mt pc .i2l 1 p2) (nx : EV mt R res M' k n p2 ls (.long x.toInt64 :: st) M) : EV mt R res M' k n pc ls (.int x :: st) M := by
  intro X p l e s m args below meth c H locs A hC hR hS hl
  obtain ⟨h, rfl⟩ := h
  exact lv_i2l hC.1 hC.2.1 h rfl (nx X p l e s m args below meth c H locs A hC hR hS hl)
theorem e_l2i {x : Int64} (h : DC mt pc .l2i 1 p2) (nx : EV mt R res M' k n p2 ls (.int x.toInt32 :: st) M) : EV mt R res M' k n pc ls (.long x :: st) M := by
  intro X p l e s m args below meth c H locs A hC hR hS hl
  obtain ⟨h, rfl⟩ := h
  exact lv_l2i hC.1 hC.2.1 h rfl (nx X p l e s m args below meth c H locs A hC hR hS hl)
theorem e_i2b {x : Int32} (h : DC mt pc .i2b 1 p2) (nx : EV mt R res M' k n p2 ls (.int x.toInt8.toInt32 :: st) M) : EV mt R res M' k n pc ls (.int x :: st) M := by
  intro X p l e s m args below meth c H locs A hC hR hS hl
  obtain ⟨h, rfl⟩ := h
  exact lv_i2b hC.1 hC.2.1 h rfl (nx X p l e s m args below meth c H locs A hC hR hS hl)
theorem e_i2c {x : Int32} (h : DC mt pc .i2c 1 p2) (nx : EV mt R res M' k n p2 ls (.int (x.toUInt32 % 65536).toInt32 :: st) M) : EV mt R res M' k n pc ls (.int x :: st) M := by
  intro X p l e s m args below meth c H locs A hC hR hS hl
  obtain ⟨h, rfl⟩ := h
  exact lv_i2c hC.1 hC.2.1 h rfl (nx X p l e s m args below meth c H locs A hC hR hS hl)
theorem e_lcmp {x y : Int64} (h : DC mt pc .lcmp 1 p2) (nx : EV mt R res M' k n p2 ls (.int (lcp x y) :: st) M) : EV mt R res M' k n pc ls (.long y :: .long x :: st) M := by
  intro X p l e s m args below meth c H locs A hC hR hS hl
  obtain ⟨h, rfl⟩ := h
  exact W.lcmp hC.1 hC.2.1 h (nx X p l e s m args below meth c H locs A hC hR hS hl)
theorem e_dup {v : Value} (h : DC mt pc .dup 1 p2) (hv : v.category = 1) (nx : EV mt R res M' k n p2 ls (v :: v :: st) M) : EV mt R res M' k n pc ls (v :: st) M := by
  intro X p l e s m args below meth c H locs A hC hR hS hl
  obtain ⟨h, rfl⟩ := h
  exact lv_dup hC.1 hC.2.1 h (by rw [shV_cat]; exact hv) (nx X p l e s m args below meth c H locs A hC hR hS hl)
theorem e_pop {v : Value} (h : DC mt pc .pop 1 p2) (hv : v.category = 1) (nx : EV mt R res M' k n p2 ls (st) M) : EV mt R res M' k n pc ls (v :: st) M := by
  intro X p l e s m args below meth c H locs A hC hR hS hl
  obtain ⟨h, rfl⟩ := h
  exact lv_pop hC.1 hC.2.1 h (by rw [shV_cat]; exact hv) (nx X p l e s m args below meth c H locs A hC hR hS hl)
theorem e_dup2 {v w : Value} (h : DC mt pc .dup2 1 p2) (hv : v.category = 1) (hw : w.category = 1) (nx : EV mt R res M' k n p2 ls (v :: w :: v :: w :: st) M) : EV mt R res M' k n pc ls (v :: w :: st) M := by
  intro X p l e s m args below meth c H locs A hC hR hS hl
  obtain ⟨h, rfl⟩ := h
  exact lv_dup2_11 hC.1 hC.2.1 h (by rw [shV_cat]; exact hv) (by rw [shV_cat]; exact hw) (nx X p l e s m args below meth c H locs A hC hR hS hl)
theorem e_if_eq {x : Int32} {off : Int} (tgt : Nat) (h : DC mt pc (.ifCond .eq off) 3 p2) (ht : (pc : Int) + off = (tgt : Int)) (n1 : x = 0 → EV mt R res M' k n tgt ls st M) (n2 : ¬ (x = 0) → EV mt R res M' k n p2 ls st M) : EV mt R res M' k n pc ls (.int x :: st) M := by
  intro X p l e s m args below meth c H locs A hC hR hS hl
  obtain ⟨h, rfl⟩ := h
  exact lv_if_eq hC.1 hC.2.1 h ht (fun q => n1 q X p l e s m args below meth c H locs A hC hR hS hl) (fun q => n2 q X p l e s m args below meth c H locs A hC hR hS hl)
theorem e_ic_eq {x y : Int32} {off : Int} (tgt : Nat) (h : DC mt pc (.if_icmp .eq off) 3 p2) (ht : (pc : Int) + off = (tgt : Int)) (n1 : x = y → EV mt R res M' k n tgt ls st M) (n2 : ¬ (x = y) → EV mt R res M' k n p2 ls st M) : EV mt R res M' k n pc ls (.int y :: .int x :: st) M := by
  intro X p l e s m args below meth c H locs A hC hR hS hl
  obtain ⟨h, rfl⟩ := h
  exact lv_icmp_eq hC.1 hC.2.1 h ht (fun q => n1 q X p l e s m args below meth c H locs A hC hR hS hl) (fun q => n2 q X p l e s m args below meth c H locs A hC hR hS hl)
theorem e_if_ne {x : Int32} {off : Int} (tgt : Nat) (h : DC mt pc (.ifCond .ne off) 3 p2) (ht : (pc : Int) + off = (tgt : Int)) (n1 : ¬ x = 0 → EV mt R res M' k n tgt ls st M) (n2 : x = 0 → EV mt R res M' k n p2 ls st M) : EV mt R res M' k n pc ls (.int x :: st) M := by
  intro X p l e s m args below meth c H locs A hC hR hS hl
  obtain ⟨h, rfl⟩ := h
  exact lv_if_ne hC.1 hC.2.1 h ht (fun q => n1 q X p l e s m args below meth c H locs A hC hR hS hl) (fun q => n2 q X p l e s m args below meth c H locs A hC hR hS hl)
theorem e_ic_ne {x y : Int32} {off : Int} (tgt : Nat) (h : DC mt pc (.if_icmp .ne off) 3 p2) (ht : (pc : Int) + off = (tgt : Int)) (n1 : ¬ x = y → EV mt R res M' k n tgt ls st M) (n2 : x = y → EV mt R res M' k n p2 ls st M) : EV mt R res M' k n pc ls (.int y :: .int x :: st) M := by
  intro X p l e s m args below meth c H locs A hC hR hS hl
  obtain ⟨h, rfl⟩ := h
  exact lv_icmp_ne hC.1 hC.2.1 h ht (fun q => n1 q X p l e s m args below meth c H locs A hC hR hS hl) (fun q => n2 q X p l e s m args below meth c H locs A hC hR hS hl)
theorem e_if_lt {x : Int32} {off : Int} (tgt : Nat) (h : DC mt pc (.ifCond .lt off) 3 p2) (ht : (pc : Int) + off = (tgt : Int)) (n1 : x < 0 → EV mt R res M' k n tgt ls st M) (n2 : ¬ (x < 0) → EV mt R res M' k n p2 ls st M) : EV mt R res M' k n pc ls (.int x :: st) M := by
  intro X p l e s m args below meth c H locs A hC hR hS hl
  obtain ⟨h, rfl⟩ := h
  exact lv_if_lt hC.1 hC.2.1 h ht (fun q => n1 q X p l e s m args below meth c H locs A hC hR hS hl) (fun q => n2 q X p l e s m args below meth c H locs A hC hR hS hl)
theorem e_ic_lt {x y : Int32} {off : Int} (tgt : Nat) (h : DC mt pc (.if_icmp .lt off) 3 p2) (ht : (pc : Int) + off = (tgt : Int)) (n1 : x < y → EV mt R res M' k n tgt ls st M) (n2 : ¬ (x < y) → EV mt R res M' k n p2 ls st M) : EV mt R res M' k n pc ls (.int y :: .int x :: st) M := by
  intro X p l e s m args below meth c H locs A hC hR hS hl
  obtain ⟨h, rfl⟩ := h
  exact lv_icmp_lt hC.1 hC.2.1 h ht (fun q => n1 q X p l e s m args below meth c H locs A hC hR hS hl) (fun q => n2 q X p l e s m args below meth c H locs A hC hR hS hl)
theorem e_if_ge {x : Int32} {off : Int} (tgt : Nat) (h : DC mt pc (.ifCond .ge off) 3 p2) (ht : (pc : Int) + off = (tgt : Int)) (n1 : 0 ≤ x → EV mt R res M' k n tgt ls st M) (n2 : ¬ (0 ≤ x) → EV mt R res M' k n p2 ls st M) : EV mt R res M' k n pc ls (.int x :: st) M := by
  intro X p l e s m args below meth c H locs A hC hR hS hl
  obtain ⟨h, rfl⟩ := h
  exact lv_if_ge hC.1 hC.2.1 h ht (fun q => n1 q X p l e s m args below meth c H locs A hC hR hS hl) (fun q => n2 q X p l e s m args below meth c H locs A hC hR hS hl)
theorem e_ic_ge {x y : Int32} {off : Int} (tgt : Nat) (h : DC mt pc (.if_icmp .ge off) 3 p2) (ht : (pc : Int) + off = (tgt : Int)) (n1 : y ≤ x → EV mt R res M' k n tgt ls st M) (n2 : ¬ (y ≤ x) → EV mt R res M' k n p2 ls st M) : EV mt R res M' k n pc ls (.int y :: .int x :: st) M := by
  intro X p l e s m args below meth c H locs A hC hR hS hl
  obtain ⟨h, rfl⟩ := h
  exact lv_icmp_ge hC.1 hC.2.1 h ht (fun q => n1 q X p l e s m args below meth c H locs A hC hR hS hl) (fun q => n2 q X p l e s m args below meth c H locs A hC hR hS hl)
theorem e_if_gt {x : Int32} {off : Int} (tgt : Nat) (h : DC mt pc (.ifCond .gt off) 3 p2) (ht : (pc : Int) + off = (tgt : Int)) (n1 : 0 < x → EV mt R res M' k n tgt ls st M) (n2 : ¬ (0 < x) → EV mt R res M' k n p2 ls st M) : EV mt R res M' k n pc ls (.int x :: st) M := by
  intro X p l e s m args below meth c H locs A hC hR hS hl
  obtain ⟨h, rfl⟩ := h
  exact lv_if_gt hC.1 hC.2.1 h ht (fun q => n1 q X p l e s m args below meth c H locs A hC hR hS hl) (fun q => n2 q X p l e s m args below meth c H locs A hC hR hS hl)
theorem e_ic_gt {x y : Int32} {off : Int} (tgt : Nat) (h : DC mt pc (.if_icmp .gt off) 3 p2) (ht : (pc : Int) + off = (tgt : Int)) (n1 : y < x → EV mt R res M' k n tgt ls st M) (n2 : ¬ (y < x) → EV mt R res M' k n p2 ls st M) : EV mt R res M' k n pc ls (.int y :: .int x :: st) M := by
  intro X p l e s m args below meth c H locs A hC hR hS hl
  obtain ⟨h, rfl⟩ := h
  exact lv_icmp_gt hC.1 hC.2.1 h ht (fun q => n1 q X p l e s m args below meth c H locs A hC hR hS hl) (fun q => n2 q X p l e s m args below meth c H locs A hC hR hS hl)
theorem e_if_le {x : Int32} {off : Int} (tgt : Nat) (h : DC mt pc (.ifCond .le off) 3 p2) (ht : (pc : Int) + off = (tgt : Int)) (n1 : x ≤ 0 → EV mt R res M' k n tgt ls st M) (n2 : ¬ (x ≤ 0) → EV mt R res M' k n p2 ls st M) : EV mt R res M' k n pc ls (.int x :: st) M := by
  intro X p l e s m args below meth c H locs A hC hR hS hl
  obtain ⟨h, rfl⟩ := h
  exact lv_if_le hC.1 hC.2.1 h ht (fun q => n1 q X p l e s m args below meth c H locs A hC hR hS hl) (fun q => n2 q X p l e s m args below meth c H locs A hC hR hS hl)
theorem e_ic_le {x y : Int32} {off : Int} (tgt : Nat) (h : DC mt pc (.if_icmp .le off) 3 p2) (ht : (pc : Int) + off = (tgt : Int)) (n1 : x ≤ y → EV mt R res M' k n tgt ls st M) (n2 : ¬ (x ≤ y) → EV mt R res M' k n p2 ls st M) : EV mt R res M' k n pc ls (.int y :: .int x :: st) M := by
  intro X p l e s m args below meth c H locs A hC hR hS hl
  obtain ⟨h, rfl⟩ := h
  exact lv_icmp_le hC.1 hC.2.1 h ht (fun q => n1 q X p l e s m args below meth c H locs A hC hR hS hl) (fun q => n2 q X p l e s m args below meth c H locs A hC hR hS hl)
theorem e_goto {off : Int} (tgt : Nat) (h : DC mt pc (.goto off) 3 p2) (ht : (pc : Int) + off = (tgt : Int)) (nx : EV mt R res M' k n tgt ls st M) : EV mt R res M' k n pc ls st M := by
  intro X p l e s m args below meth c H locs A hC hR hS hl
  obtain ⟨h, rfl⟩ := h
  exact lv_goto hC.1 hC.2.1 h ht (nx X p l e s m args below meth c H locs A hC hR hS hl)
theorem e_ifnull {x : Nat} {off : Int} (h : DC mt pc (.ifnull off) 3 p2) (nx : EV mt R res M' k n p2 ls st M) : EV mt R res M' k n pc ls (.ref x :: st) M := by
  intro X p l e s m args below meth c H locs A hC hR hS hl
  obtain ⟨h, rfl⟩ := h
  exact lv_ifnull hC.1 hC.2.1 h (nx X p l e s m args below meth c H locs A hC hR hS hl)
theorem e_ifnullN {off : Int} (tgt : Nat) (h : DC mt pc (.ifnull off) 3 p2) (ht : (pc : Int) + off = (tgt : Int)) (nx : EV mt R res M' k n tgt ls st M) : EV mt R res M' k n pc ls (.null :: st) M := by
  intro X p l e s m args below meth c H locs A hC hR hS hl
  obtain ⟨h, rfl⟩ := h
  exact lv_ifnullN hC.1 hC.2.1 h ht (nx X p l e s m args below meth c H locs A hC hR hS hl)
theorem e_ifnonnull {x : Nat} {off : Int} (tgt : Nat) (h : DC mt pc (.ifnonnull off) 3 p2) (ht : (pc : Int) + off = (tgt : Int)) (nx : EV mt R res M' k n tgt ls st M) : EV mt R res M' k n pc ls (.ref x :: st) M := by
  intro X p l e s m args below meth c H locs A hC hR hS hl
  obtain ⟨h, rfl⟩ := h
  exact lv_ifnonnull hC.1 hC.2.1 h ht (nx X p l e s m args below meth c H locs A hC hR hS hl)
theorem e_ifnonnullN {off : Int} (h : DC mt pc (.ifnonnull off) 3 p2) (nx : EV mt R res M' k n p2 ls st M) : EV mt R res M' k n pc ls (.null :: st) M := by
  intro X p l e s m args below meth c H locs A hC hR hS hl
  obtain ⟨h, rfl⟩ := h
  exact lv_ifnonnullN hC.1 hC.2.1 h (nx X p l e s m args below meth c H locs A hC hR hS hl)
theorem e_tabIn {x : Int32} {dflt lo hi off : Int} {offs : Array Int} {len : Nat} (tgt : Nat) (h : DC mt pc (.tableswitch dflt lo hi offs) len p2) (h1 : ¬ x.toInt < lo) (h2 : ¬ hi < x.toInt) (ho : offs[(x.toInt - lo).toNat]? = some off) (ht : (pc : Int) + off = (tgt : Int)) (nx : EV mt R res M' k n tgt ls st M) : EV mt R res M' k n pc ls (.int x :: st) M := by
  intro X p l e s m args below meth c H locs A hC hR hS hl
  obtain ⟨h, rfl⟩ := h
  exact lv_tableIn hC.1 hC.2.1 h h1 h2 ho ht (nx X p l e s m args below meth c H locs A hC hR hS hl)
theorem e_tabOut {x : Int32} {dflt lo hi : Int} {offs : Array Int} {len : Nat} (tgt : Nat) (h : DC mt pc (.tableswitch dflt lo hi offs) len p2) (h1 : x.toInt < lo ∨ hi < x.toInt) (ht : (pc : Int) + dflt = (tgt : Int)) (nx : EV mt R res M' k n tgt ls st M) : EV mt R res M' k n pc ls (.int x :: st) M := by
  intro X p l e s m args below meth c H locs A hC hR hS hl
  obtain ⟨h, rfl⟩ := h
  exact lv_tableOut hC.1 hC.2.1 h h1 ht (nx X p l e s m args below meth c H locs A hC hR hS hl)
theorem e_nameI {x y : Int32} (hy : y = x) (nx : EV mt R res M' k n pc ls (.int y :: st) M) : EV mt R res M' k n pc ls (.int x :: st) M := hy ▸ nx
theorem e_nameJ {x y : Int64} (hy : y = x) (nx : EV mt R res M' k n pc ls (.long y :: st) M) : EV mt R res M' k n pc ls (.long x :: st) M := hy ▸ nx
theorem e_astoreO {i : Nat} {r : Option Nat} {l2 : Lv} (h : DC mt pc (.astore i) 2 p2) (hs : ls.set i (some (vr r)) = l2) (hn : i < mt.2.2.1) (hp : okP ls i = true) (nx : EV mt R res M' k n p2 l2 st M) : EV mt R res M' k n pc ls (vr r :: st) M := by
  cases r with
  | none => exact e_astoreN h hs hn hp nx
  | some a => exact e_astore h hs hn hp nx
theorem e_astore_nO {i : Fin 4} {r : Option Nat} {l2 : Lv} (h : DC mt pc (.astore_n i) 1 p2) (hs : ls.set i (some (vr r)) = l2) (hn : (i : Nat) < mt.2.2.1) (hp : okP ls i = true) (nx : EV mt R res M' k n p2 l2 st M) : EV mt R res M' k n pc ls (vr r :: st) M := by
  cases r with
  | none => exact e_astore_nN h hs hn hp nx
  | some a => exact e_astore_n h hs hn hp nx
theorem e_aloadO {i : Nat} {r : Option Nat} (h : DC mt pc (.aload i) 2 p2) (hi : ls[i]? = some (some (vr r))) (nx : EV mt R res M' k n p2 ls (vr r :: st) M) : EV mt R res M' k n pc ls st M := by
  cases r with
  | none => exact e_aloadN h hi nx
  | some a => exact e_aload h hi nx
theorem e_aload_nO {i : Fin 4} {r : Option Nat} (h : DC mt pc (.aload_n i) 1 p2) (hi : ls[(i : Nat)]? = some (some (vr r))) (nx : EV mt R res M' k n p2 ls (vr r :: st) M) : EV mt R res M' k n pc ls st M := by
  cases r with
  | none => exact e_aload_nN h hi nx
  | some a => exact e_aload_n h hi nx
theorem tab_out {x : Int32} (lo : Int) (N : Nat) (h1 : -2147483648 ≤ lo) (h2 : lo + N ≤ 2147483648) (hne : ∀ j : Nat, j < N → ¬ x = Int32.ofInt (lo + j)) : x.toInt < lo ∨ lo + N - 1 < x.toInt := by
  by_cases h : x.toInt < lo ∨ lo + N - 1 < x.toInt
  · exact h
  · exfalso
    have a1 : lo ≤ x.toInt := by omega
    have a2 : x.toInt ≤ lo + N - 1 := by omega
    refine hne (x.toInt - lo).toNat (by omega) ?_
    rw [show lo + ((x.toInt - lo).toNat : Int) = x.toInt by omega, Int32.ofInt_toInt]
theorem e_tabEq {x v : Int32} {dflt lo hi off : Int} {offs : Array Int} {len : Nat} (tgt : Nat) (h : DC mt pc (.tableswitch dflt lo hi offs) len p2) (hx : x = v) (h1 : ¬ v.toInt < lo) (h2 : ¬ hi < v.toInt) (ho : offs[(v.toInt - lo).toNat]? = some off) (ht : (pc : Int) + off = (tgt : Int)) (nx : EV mt R res M' k n tgt ls st M) : EV mt R res M' k n pc ls (.int x :: st) M := by
  subst hx; exact e_tabIn tgt h h1 h2 ho ht nx
end RULES
end
section
/-! ===== the memory: fields and arrays ===== -/
def upd2 {α : Type} (f : Nat → Nat → α) (a k : Nat) (v : α) : Nat → Nat → α := fun b j => if b = a then (if j = k then v else f b j) else f b j
theorem upd2_ne {α : Type} {f : Nat → Nat → α} {a k b : Nat} {v : α} (h : b ≠ a) : upd2 f a k v b = f b := by funext j; simp [upd2, h]
theorem upd2_at {α : Type} {f : Nat → Nat → α} {a k : Nat} {v : α} : upd2 f a k v a k = v := by simp [upd2]
theorem upd2_nk {α : Type} {f : Nat → Nat → α} {a k j : Nat} {v : α} (h : j ≠ k) : upd2 f a k v a j = f a j := by simp [upd2, h]
def inb (i : Int32) (n : Nat) : Prop := ¬ (i < 0 ∨ n ≤ i.toNatClampNeg)
def gI (ci k a : Nat) (M : MM) : Option Int32 := if (M.1.2.1 a).1 = ci then some (M.2.1 a k) else none
def gL (ci k a : Nat) (M : MM) : Option Int64 := if (M.1.2.1 a).1 = ci then some (M.2.2 a k) else none
def gR (ci k a : Nat) (M : MM) : Option Nat := if (M.1.2.1 a).1 = ci then M.1.2.2 a k else none
def pI (ci k a : Nat) (v : Int32) (M : MM) : Option MM := if (M.1.2.1 a).1 = ci then some (M.1, upd2 M.2.1 a k v, M.2.2) else none
def pZ (ci k a : Nat) (v : Int32) (M : MM) : Option MM := if (M.1.2.1 a).1 = ci ∧ v &&& 1 = v then some (M.1, upd2 M.2.1 a k v, M.2.2) else none
def pL (ci k a : Nat) (v : Int64) (M : MM) : Option MM := if (M.1.2.1 a).1 = ci then some (M.1, M.2.1, upd2 M.2.2 a k v) else none
def pR (ci k a r : Nat) (M : MM) : Option MM := if (M.1.2.1 a).1 = ci then some ((M.1.1, M.1.2.1, upd2 M.1.2.2 a k (some r)), M.2) else none
def aI (kd a : Nat) (i : Int32) (M : MM) : Option Int32 := if (M.1.2.1 a).1 = kd ∧ ¬ (i < 0 ∨ (M.1.2.1 a).2 ≤ i.toNatClampNeg) then some (M.2.1 a i.toNatClampNeg) else none
def aL (a : Nat) (i : Int32) (M : MM) : Option Int64 := if (M.1.2.1 a).1 = 103 ∧ ¬ (i < 0 ∨ (M.1.2.1 a).2 ≤ i.toNatClampNeg) then some (M.2.2 a i.toNatClampNeg) else none
def aR (kd a : Nat) (i : Int32) (M : MM) : Option Nat := if (M.1.2.1 a).1 = kd ∧ ¬ (i < 0 ∨ (M.1.2.1 a).2 ≤ i.toNatClampNeg) then M.1.2.2 a i.toNatClampNeg else none
def aN (a : Nat) (M : MM) : Option Int32 := if 100 ≤ (M.1.2.1 a).1 ∧ (M.1.2.1 a).1 < 107 then some (Int32.ofNat (M.1.2.1 a).2) else none
def nrw (kd : Nat) (v : Int32) : Int32 := if kd = 101 then v.toInt8.toInt32 else if kd = 102 then v &&& 1 else v
def sI (kd a : Nat) (i v : Int32) (M : MM) : Option MM := if (M.1.2.1 a).1 = kd ∧ ¬ (i < 0 ∨ (M.1.2.1 a).2 ≤ i.toNatClampNeg) then some (M.1, upd2 M.2.1 a i.toNatClampNeg (nrw kd v), M.2.2) else none
def sL (a : Nat) (i : Int32) (v : Int64) (M : MM) : Option MM := if (M.1.2.1 a).1 = 103 ∧ ¬ (i < 0 ∨ (M.1.2.1 a).2 ≤ i.toNatClampNeg) then some (M.1, M.2.1, upd2 M.2.2 a i.toNatClampNeg v) else none
/-- a reference r of the class ci into an array of kind kd -/
def sR (kd ci a : Nat) (i : Int32) (r : Nat) (M : MM) : Option MM := if ((M.1.2.1 a).1 = kd ∧ ¬ (i < 0 ∨ (M.1.2.1 a).2 ≤ i.toNatClampNeg)) ∧ (M.1.2.1 r).1 = ci then some ((M.1.1, M.1.2.1, upd2 M.1.2.2 a i.toNatClampNeg (some r)), M.2) else none
theorem qent_congr {x : QX} {M M1 : MM} {a : Nat} (h1 : M1.1.2.1 a = M.1.2.1 a) (h2 : M1.2.1 a = M.2.1 a) (h3 : M1.2.2 a = M.2.2 a) (h4 : M1.1.2.2 a = M.1.2.2 a) : qent x M1 a = qent x M a := by
  have h5 : ∀ ci, qfs x.2.2.1 M1 a ci = qfs x.2.2.1 M a ci := by
    intro ci
    unfold qfs
    apply List.map_congr_left
    intro k _
    unfold qfv
    rw [h2, h3, h4]
  unfold qent
  rw [h1, h2, h3, h4, h5]
/-- a class of the list -/
def CK (ci : Nat) (q : vw_C) : Prop := classes[ci]? = some q ∧ q.2.2 = qnf ci ∧ (∀ w ∈ u_ws q.1 q.2.1 q.2.2, w ∈ gT) ∧ (∀ k, k < q.2.2 → parseFieldDescriptor (q.2.1 k).2.2.1 = some (qty ci k)) ∧ ∀ a, a < q.2.2 → ∀ b, b < q.2.2 → a ≠ b → (q.2.1 a).2.1 ≠ (q.2.1 b).2.1
theorem CK.lt {ci : Nat} {q : vw_C} (h : CK ci q) : ci < 13 := (List.getElem?_eq_some_iff.mp h.1).1
def FL (own : String) (ix ci kf : Nat) (fin : Bool) : Prop := ∃ q : vw_C, CK ci q ∧ kf < q.2.2 ∧ (q.2.1 kf).1 = q.1 ∧ (q.2.1 kf).2.2.2 = fin ∧ Cond.fieldLink own ix (q.2.1 kf).1 (q.2.1 kf).2.1 (q.2.1 kf).2.2.1 ∈ gT
def FI (ci kf : Nat) : Prop := ∀ (B : Nat) (M : MM) (a : Nat), qfv B M a kf (qty ci kf) = .int (M.2.1 a kf)
def FJ (ci kf : Nat) : Prop := ∀ (B : Nat) (M : MM) (a : Nat), qfv B M a kf (qty ci kf) = .long (M.2.2 a kf)
def FR (ci kf : Nat) : Prop := ∀ (B : Nat) (M : MM) (a : Nat), qfv B M a kf (qty ci kf) = va_rf (shO B (M.1.2.2 a kf))
theorem qfs_at {B : Nat} {M : MM} {a ci kf : Nat} (h : kf < qnf ci) : (qfs B M a ci)[kf]? = some (qfv B M a kf (qty ci kf)) := by simp [qfs, h]
theorem qent_obj {x : QX} {M : MM} {a ci : Nat} (hc : (M.1.2.1 a).1 = ci) (h : ci < 13) : qent x M a = .inr (ci, qfs x.2.2.1 M a ci) := by
  unfold qent
  rw [hc, if_pos (by omega)]
theorem qent_int {x : QX} {M : MM} {a kd : Nat} (hc : (M.1.2.1 a).1 = kd) (h : 100 ≤ kd ∧ kd < 103) : qent x M a = .inl (x.2.1 (kd - 100), (M.1.2.1 a).2, .inl (M.2.1 a)) := by
  unfold qent
  rw [hc, if_neg (by omega), if_neg (by omega), if_pos (by omega)]
theorem qent_long {x : QX} {M : MM} {a : Nat} (hc : (M.1.2.1 a).1 = 103) : qent x M a = .inl (x.2.1 3, (M.1.2.1 a).2, .inr (.inl (M.2.2 a))) := by
  unfold qent
  rw [hc, if_neg (by omega), if_pos rfl]
theorem qent_ref {x : QX} {M : MM} {a kd : Nat} (hc : (M.1.2.1 a).1 = kd) (h : 104 ≤ kd) : qent x M a = .inl (x.2.1 (kd - 100), (M.1.2.1 a).2, .inr (.inr (.inr (.inr (fun j => shO x.2.2.1 (M.1.2.2 a j)))))) := by
  unfold qent
  rw [hc, if_neg (by omega), if_neg (by omega), if_neg (by omega)]
section MEMR
variable {mt : MT} {R : Room} {res : Option Value} {M' : MM} {k n pc p2 : Nat} {ls : Lv} {st : List Value} {M : MM}
theorem e_getV {ci kf ix a : Nat} {fin : Bool} {v : Value} (h : DC mt pc (.getfield ix) 3 p2) (f : FL mt.1.cls ix ci kf fin) (hc : (M.1.2.1 a).1 = ci) (hq : ∀ B : Nat, qfv B M a kf (qty ci kf) = shV B v) (nx : EV mt R res M' k n p2 ls (v :: st) M) : EV mt R res M' k n pc ls (.ref a :: st) M := by
  intro X p l e s m args below meth c H locs A hC hR hS hl
  obtain ⟨h, rfl⟩ := h
  obtain ⟨q, ck, hk, ho, hfin, hlink⟩ := f
  have h13 := ck.lt
  have hlt : a < M.1.1 := hR.lt (by omega)
  have he := ws_get (x := X) hlt
  rw [qent_obj hc h13] at he
  exact va_get (D := X.1) (ci := ci) (C := q.1) (T := q.2.1) (N := q.2.2) hC.1 hC.2.1 hC.2.2.2.2.2.1 ck.2.2.1 hC.2.2.2.2.1 hC.2.2.2.2.2.2.1.1 hR.2.1 a he ck.1 kf hk (hC.2.2.2.2.2.1 _ hlink) (fun _ h9 => h9) (by rw [qfs_at (by rw [← ck.2.1]; exact hk), hq X.2.2.1]) h (nx X p l e s m args below meth c H locs A hC hR hS hl)
theorem gI_spec {ci kf a : Nat} {v : Int32} (h : gI ci kf a M = some v) : (M.1.2.1 a).1 = ci ∧ M.2.1 a kf = v := by
  unfold gI at h; split at h
  · next hc => exact ⟨hc, Option.some.inj h⟩
  · cases h
theorem gL_spec {ci kf a : Nat} {v : Int64} (h : gL ci kf a M = some v) : (M.1.2.1 a).1 = ci ∧ M.2.2 a kf = v := by
  unfold gL at h; split at h
  · next hc => exact ⟨hc, Option.some.inj h⟩
  · cases h
theorem gR_spec {ci kf a r : Nat} (h : gR ci kf a M = some r) : (M.1.2.1 a).1 = ci ∧ M.1.2.2 a kf = some r := by
  unfold gR at h; split at h
  · next hc => exact ⟨hc, h⟩
  · cases h
theorem e_getI {ci kf ix a : Nat} {fin : Bool} {v : Int32} (h : DC mt pc (.getfield ix) 3 p2) (f : FL mt.1.cls ix ci kf fin) (hq : FI ci kf) (hg : gI ci kf a M = some v) (nx : EV mt R res M' k n p2 ls (.int v :: st) M) : EV mt R res M' k n pc ls (.ref a :: st) M :=
  e_getV h f (gI_spec hg).1 (fun B => by rw [hq B M a, (gI_spec hg).2]; rfl) nx
theorem e_getL {ci kf ix a : Nat} {fin : Bool} {v : Int64} (h : DC mt pc (.getfield ix) 3 p2) (f : FL mt.1.cls ix ci kf fin) (hq : FJ ci kf) (hg : gL ci kf a M = some v) (nx : EV mt R res M' k n p2 ls (.long v :: st) M) : EV mt R res M' k n pc ls (.ref a :: st) M :=
  e_getV h f (gL_spec hg).1 (fun B => by rw [hq B M a, (gL_spec hg).2]; rfl) nx
theorem e_getR {ci kf ix a r : Nat} {fin : Bool} (h : DC mt pc (.getfield ix) 3 p2) (f : FL mt.1.cls ix ci kf fin) (hq : FR ci kf) (hg : gR ci kf a M = some r) (nx : EV mt R res M' k n p2 ls (.ref r :: st) M) : EV mt R res M' k n pc ls (.ref a :: st) M :=
  e_getV h f (gR_spec hg).1 (fun B => by rw [hq B M a, (gR_spec hg).2]; rfl) nx
/-- a field is written: M1 is M but there -/
theorem e_putV {ci kf ix a : Nat} {v : Value} {M1 : MM} {fin : Bool} (h : DC mt pc (.putfield ix) 3 p2) (f : FL mt.1.cls ix ci kf fin) (hfn : fin = false ∨ (mt.1.name = "<init>" ∧ ∃ q : vw_C, classes[ci]? = some q ∧ q.1 = mt.1.cls)) (hc : (M.1.2.1 a).1 = ci)
    (hn : ∀ B : Nat, narrow (qty ci kf) (shV B v) = shV B v ∧ fits (qty ci kf) (shV B v) = true) (h0 : M1.1.1 = M.1.1) (h1 : M1.1.2.1 = M.1.2.1) (hb : ∀ b, b ≠ a → M1.2.1 b = M.2.1 b ∧ M1.2.2 b = M.2.2 b ∧ M1.1.2.2 b = M.1.2.2 b)
    (hj : ∀ (B j : Nat), j ≠ kf → ∀ t, qfv B M1 a j t = qfv B M a j t) (hv : ∀ B : Nat, qfv B M1 a kf (qty ci kf) = shV B v)
    (nx : EV mt R res M' k n p2 ls st M1) : EV mt R res M' k n pc ls (v :: .ref a :: st) M := by
  intro X p l e s m args below meth c H locs A hC hR hS hl
  obtain ⟨h, rfl⟩ := h
  obtain ⟨q, ck, hk, ho, hfin, hlink⟩ := f
  have h13 := ck.lt
  have hlt : a < M.1.1 := hR.lt (by omega)
  have he := ws_get (x := X) hlt
  rw [qent_obj hc h13] at he
  have hP := hR.2.1
  have hD := ws_D X M
  have hK := hC.2.2.2.2.2.2.1.1
  have hts := hC.2.2.2.2.2.1
  have hin := ck.2.2.1
  have hown := hC.2.2.2.2.1
  have hap := va_apart (own := mt.1.cls) hts hin (qty ci) ck.2.2.2.1 ck.2.2.2.2 hK ck.1
  obtain ⟨r, g1, cell, q1, q2, q3, q4⟩ := hP a _ he
  have hr : r = q := Option.some.inj (g1.symm.trans ck.1)
  subst hr
  obtain ⟨hSl, hfc, kC, hkC, hkind⟩ := hK.1 ci _ ck.1
  obtain ⟨cf, kf', fi, fd, hi, hsl⟩ := hSl kf hk
  have hlay := hts _ (hin _ (u_in_lay hk))
  have hst := (u_facts hfc hkC (u_lays hts hin hk) hi).1
  have hd := ck.2.2.2.1 kf hk
  have fin1 : ∀ (H1 : Heap) (j9 : Nat), H1[X.2.2.1 + a]? = some (cell.setSlot (X.1.2 ci kf) (shV X.2.2.1 v)) → H1.size = H.size → (∀ q9, q9 ≠ X.2.2.1 + a → H1[q9]? = H[q9]?) → W p l e R s m args below meth c H1 (locs ++ [⟨X.2.2.1 + a, j9⟩]) k n (MQ below (QR X res M') args s R.cells R.slots (qA X)) (F0 m (pc + 3) A (st.map (shV X.2.2.1))) := by
    intro H1 j9 e1 z oq
    refine nx X p l e s m args below meth c H1 _ A hC ⟨by rw [z, h0]; exact hR.1, ?_, fun b hb9 => by rw [h1]; exact hR.2.2 b (by rw [← h0]; exact hb9)⟩ (hS.put z oq (Nat.le_add_right _ _)) hl
    have hset := hP.set hD he (e := .inr (ci, (qfs X.2.2.1 M a ci).set kf (shV X.2.2.1 v))) (H1 := H1) ⟨r, ck.1, t_OB.to (V := updV (vp_V (qfs X.2.2.1 M a ci)) kf (shV X.2.2.1 v)) ⟨_, e1, q2, q3, t_set q4 hap hk (shV X.2.2.1 v)⟩ (fun j _ => vp_updV_set (by simp [qfs]; rw [← ck.2.1]; exact hk) (shV X.2.2.1 v) j)⟩ oq
    rw [ws_set (M1 := M1) h0 hlt ?_ ?_] at hset
    · exact hset
    · rw [qent_obj (by rw [h1]; exact hc) h13]
      congr 2
      apply List.ext_getElem?
      intro j
      rw [List.getElem?_set]
      by_cases hjn : j < qnf ci
      · rw [qfs_at hjn]
        by_cases hjk : kf = j
        · subst hjk
          rw [if_pos rfl, if_pos (by simp [qfs]; exact hjn), hv]
        · rw [if_neg hjk, qfs_at hjn, hj _ j (fun q => hjk q.symm)]
      · have hkj : kf ≠ j := fun e9 => hjn (by rw [← e9, ← ck.2.1]; exact hk)
        rw [if_neg hkj, List.getElem?_eq_none (by simp [qfs]; omega), List.getElem?_eq_none (by simp [qfs]; omega)]
    · intro b hb9
      exact qent_congr (by rw [h1]) (hb b hb9).1 (hb b hb9).2.1 (hb b hb9).2.2
  rcases hfn with hfn | ⟨hnm, hq9⟩
  · unfold u_lay at hlay
    rw [if_neg (by rw [hfin, hfn]; decide)] at hlay
    have h6 := u_store hfc hkC hkind hlay hi hd (hn X.2.2.1).1 (hn X.2.2.1).2
    refine W.putK hC.1 hC.2.1 (f := fd) ⟨hown, hts _ hlink, ⟨_, _, _, hi⟩, hst⟩ (by rw [q2]; exact h6) q1 q3 (by rw [hsl]; exact k2_hasslot (q4 kf hk)) rfl rfl h fun H1 e1 z oq => ?_
    rw [hsl] at e1 ⊢
    exact fin1 H1 _ e1 z oq
  · obtain ⟨q9, hq9, hq9c⟩ := hq9
    have : q9 = r := Option.some.inj (hq9.symm.trans ck.1)
    subst this
    cases hff : fin with
    | false =>
      unfold u_lay at hlay
      rw [if_neg (by rw [hfin, hff]; decide)] at hlay
      have h6 := u_store hfc hkC hkind hlay hi hd (hn X.2.2.1).1 (hn X.2.2.1).2
      refine W.putK hC.1 hC.2.1 (f := fd) ⟨hown, hts _ hlink, ⟨_, _, _, hi⟩, hst⟩ (by rw [q2]; exact h6) q1 q3 (by rw [hsl]; exact k2_hasslot (q4 kf hk)) rfl rfl h fun H1 e1 z oq => ?_
      rw [hsl] at e1 ⊢
      exact fin1 H1 _ e1 z oq
    | true =>
      unfold u_lay at hlay
      rw [if_pos (by rw [hfin, hff])] at hlay
      have hcf : m.cls = cf := by
        obtain ⟨_, _, c', _, _, _, -, -, hf', -, -, -, hown2, -⟩ := Cond.laysFinal_spec hlay
        have e1 : c' = cf := by have := hi.symm.trans hf'; simp at this; exact this.1.symm
        rw [ho, hq9c] at hown2
        rw [← e1]; exact Option.some.inj (hown.symm.trans hown2)
      have h6 := u_fits hfc hkC hkind (Or.inr hlay) hi hd (hn X.2.2.1).1 (hn X.2.2.1).2
      refine W.putFinK hC.1 hC.2.1 hown (hts _ hlink) hi hst hcf (by rw [← hnm]; exact hC.2.2.2.2.2.2.2.2.2.1) (by rw [q2]; exact h6) q1 q3 (by rw [hsl]; exact k2_hasslot (q4 kf hk)) rfl rfl h fun H1 e1 z oq => ?_
      rw [hsl] at e1 ⊢
      exact fin1 H1 _ e1 z oq
theorem qfv_same {B : Nat} {M M1 : MM} {a j : Nat} (h1 : M1.2.1 a j = M.2.1 a j) (h2 : M1.2.2 a j = M.2.2 a j) (h3 : M1.1.2.2 a j = M.1.2.2 a j) (t : FieldType) : qfv B M1 a j t = qfv B M a j t := by
  unfold qfv; rw [h1, h2, h3]
theorem b01 {v : Int32} (h : v &&& 1 = v) : v = 0 ∨ v = 1 := by
  rw [pk_and v (m := 1) 1 (by decide)] at h
  have h2 : v.toBitVec.toNat % 2 ^ 1 < 2 := Nat.mod_lt _ (by decide)
  generalize v.toBitVec.toNat % 2 ^ 1 = j at h h2
  have : j = 0 ∨ j = 1 := by omega
  rcases this with rfl | rfl
  · left; rw [← h]; rfl
  · right; rw [← h]; rfl
theorem fits_b {v : Int32} (h : v &&& 1 = v) : fits .boolean (.int v) = true := by
  rcases b01 h with rfl | rfl <;> decide
def okIn (mt : MT) (ci : Nat) : Prop := mt.1.name = "<init>" ∧ ∃ q : vw_C, classes[ci]? = some q ∧ q.1 = mt.1.cls
theorem e_putI {ci kf ix a : Nat} {v : Int32} {M1 : MM} {fin : Bool} (h : DC mt pc (.putfield ix) 3 p2) (f : FL mt.1.cls ix ci kf fin) (hfn : fin = false ∨ okIn mt ci) (hq : FI ci kf) (ht : qty ci kf = .int) (hp : pI ci kf a v M = some M1) (nx : EV mt R res M' k n p2 ls st M1) : EV mt R res M' k n pc ls (.int v :: .ref a :: st) M := by
  unfold pI at hp
  split at hp
  · next hc =>
    cases hp
    exact e_putV (M1 := (M.1, upd2 M.2.1 a kf v, M.2.2)) h f hfn hc (fun B => by rw [ht]; exact ⟨rfl, rfl⟩) rfl rfl (fun b hb => ⟨upd2_ne hb, rfl, rfl⟩) (fun B j hj t => qfv_same (M := M) (M1 := (M.1, upd2 M.2.1 a kf v, M.2.2)) (upd2_nk hj) rfl rfl t) (fun B => by rw [hq]; simp [upd2_at]; rfl) nx
  · cases hp
theorem e_putZ {ci kf ix a : Nat} {v : Int32} {M1 : MM} {fin : Bool} (h : DC mt pc (.putfield ix) 3 p2) (f : FL mt.1.cls ix ci kf fin) (hfn : fin = false ∨ okIn mt ci) (hq : FI ci kf) (ht : qty ci kf = .boolean) (hp : pZ ci kf a v M = some M1) (nx : EV mt R res M' k n p2 ls st M1) : EV mt R res M' k n pc ls (.int v :: .ref a :: st) M := by
  unfold pZ at hp
  split at hp
  · next hc =>
    cases hp
    exact e_putV (M1 := (M.1, upd2 M.2.1 a kf v, M.2.2)) h f hfn hc.1 (fun B => by rw [ht]; exact ⟨by show Value.int _ = Value.int _; rw [hc.2], fits_b hc.2⟩) rfl rfl (fun b hb => ⟨upd2_ne hb, rfl, rfl⟩) (fun B j hj t => qfv_same (M := M) (M1 := (M.1, upd2 M.2.1 a kf v, M.2.2)) (upd2_nk hj) rfl rfl t) (fun B => by rw [hq]; simp [upd2_at]; rfl) nx
  · cases hp
theorem e_putL {ci kf ix a : Nat} {v : Int64} {M1 : MM} {fin : Bool} (h : DC mt pc (.putfield ix) 3 p2) (f : FL mt.1.cls ix ci kf fin) (hfn : fin = false ∨ okIn mt ci) (hq : FJ ci kf) (ht : qty ci kf = .long) (hp : pL ci kf a v M = some M1) (nx : EV mt R res M' k n p2 ls st M1) : EV mt R res M' k n pc ls (.long v :: .ref a :: st) M := by
  unfold pL at hp
  split at hp
  · next hc =>
    cases hp
    exact e_putV (M1 := (M.1, M.2.1, upd2 M.2.2 a kf v)) h f hfn hc (fun B => by rw [ht]; exact ⟨rfl, rfl⟩) rfl rfl (fun b hb => ⟨rfl, upd2_ne hb, rfl⟩) (fun B j hj t => qfv_same (M := M) (M1 := (M.1, M.2.1, upd2 M.2.2 a kf v)) rfl (upd2_nk hj) rfl t) (fun B => by rw [hq]; simp [upd2_at]; rfl) nx
  · cases hp
theorem e_putR {ci kf ix a r : Nat} {M1 : MM} {fin : Bool} (h : DC mt pc (.putfield ix) 3 p2) (f : FL mt.1.cls ix ci kf fin) (hfn : fin = false ∨ okIn mt ci) (hq : FR ci kf) (ht : ∀ a : Nat, narrow (qty ci kf) (.ref a) = .ref a ∧ fits (qty ci kf) (.ref a) = true) (hp : pR ci kf a r M = some M1) (nx : EV mt R res M' k n p2 ls st M1) : EV mt R res M' k n pc ls (.ref r :: .ref a :: st) M := by
  unfold pR at hp
  split at hp
  · next hc =>
    cases hp
    exact e_putV (M1 := ((M.1.1, M.1.2.1, upd2 M.1.2.2 a kf (some r)), M.2)) h f hfn hc (fun B => ht _) rfl rfl (fun b hb => ⟨rfl, rfl, upd2_ne hb⟩) (fun B j hj t => qfv_same (M := M) (M1 := ((M.1.1, M.1.2.1, upd2 M.1.2.2 a kf (some r)), M.2)) rfl rfl (upd2_nk hj) t) (fun B => by rw [hq]; simp [upd2_at]; rfl) nx
  · cases hp
/-! arrays -/
theorem tys_int (X : QX) {kd : Nat} (h : kd = 100) : (tysOf X)[kd - 100]? = some (X.2.1 (kd - 100), .int) := by subst h; rfl
theorem aI_spec {kd a : Nat} {i v : Int32} (h : aI kd a i M = some v) : (M.1.2.1 a).1 = kd ∧ vp_in i (M.1.2.1 a).2 ∧ M.2.1 a i.toNatClampNeg = v := by
  unfold aI at h; split at h
  · next hc => exact ⟨hc.1, hc.2, Option.some.inj h⟩
  · cases h
theorem e_iald {a : Nat} {i v : Int32} (h : DC mt pc .iaload 1 p2) (hg : aI 100 a i M = some v) (nx : EV mt R res M' k n p2 ls (.int v :: st) M) : EV mt R res M' k n pc ls (.int i :: .ref a :: st) M := by
  intro X p l e s m args below meth c H locs A hC hR hS hl
  obtain ⟨h, rfl⟩ := h
  obtain ⟨hc, hin, rfl⟩ := aI_spec hg
  have he := ws_get (x := X) (hR.lt (a := a) (by omega))
  rw [qent_int hc (by omega)] at he
  exact va_iald (D := X.1) (tys := tysOf X) hC.1 hC.2.1 hC.2.2.2.2.2.2.1.1 hR.2.1 a 0 he rfl hin h (nx X p l e s m args below meth c H locs A hC hR hS hl)
theorem e_bald {a : Nat} {i v : Int32} (h : DC mt pc .baload 1 p2) (hg : aI 101 a i M = some v) (nx : EV mt R res M' k n p2 ls (.int v :: st) M) : EV mt R res M' k n pc ls (.int i :: .ref a :: st) M := by
  intro X p l e s m args below meth c H locs A hC hR hS hl
  obtain ⟨h, rfl⟩ := h
  obtain ⟨hc, hin, rfl⟩ := aI_spec hg
  have he := ws_get (x := X) (hR.lt (a := a) (by omega))
  rw [qent_int hc (by omega)] at he
  exact va_bald (D := X.1) (tys := tysOf X) hC.1 hC.2.1 hC.2.2.2.2.2.2.1.1 hR.2.1 a 1 he rfl hin h (nx X p l e s m args below meth c H locs A hC hR hS hl)
theorem e_zald {a : Nat} {i v : Int32} (h : DC mt pc .baload 1 p2) (hg : aI 102 a i M = some v) (nx : EV mt R res M' k n p2 ls (.int v :: st) M) : EV mt R res M' k n pc ls (.int i :: .ref a :: st) M := by
  intro X p l e s m args below meth c H locs A hC hR hS hl
  obtain ⟨h, rfl⟩ := h
  obtain ⟨hc, hin, rfl⟩ := aI_spec hg
  have he := ws_get (x := X) (hR.lt (a := a) (by omega))
  rw [qent_int hc (by omega)] at he
  exact va_zald (D := X.1) (tys := tysOf X) hC.1 hC.2.1 hC.2.2.2.2.2.2.1.1 hR.2.1 a 2 he rfl hin h (nx X p l e s m args below meth c H locs A hC hR hS hl)
theorem e_lald {a : Nat} {i : Int32} {v : Int64} (h : DC mt pc .laload 1 p2) (hg : aL a i M = some v) (nx : EV mt R res M' k n p2 ls (.long v :: st) M) : EV mt R res M' k n pc ls (.int i :: .ref a :: st) M := by
  intro X p l e s m args below meth c H locs A hC hR hS hl
  obtain ⟨h, rfl⟩ := h
  unfold aL at hg
  split at hg
  · next hc =>
    cases hg
    have he := ws_get (x := X) (hR.lt (a := a) (by omega))
    rw [qent_long hc.1] at he
    exact va_lald (D := X.1) (tys := tysOf X) hC.1 hC.2.1 hC.2.2.2.2.2.2.1.1 hR.2.1 a 3 he rfl hc.2 h (nx X p l e s m args below meth c H locs A hC hR hS hl)
  · cases hg
theorem aR_spec {kd a r : Nat} {i : Int32} (h : aR kd a i M = some r) : (M.1.2.1 a).1 = kd ∧ vp_in i (M.1.2.1 a).2 ∧ M.1.2.2 a i.toNatClampNeg = some r := by
  unfold aR at h; split at h
  · next hc => exact ⟨hc.1, hc.2, h⟩
  · cases h
theorem e_aald {kd a r : Nat} {i : Int32} (h : DC mt pc .aaload 1 p2) (hk : 104 ≤ kd ∧ kd < 107) (hg : aR kd a i M = some r) (nx : EV mt R res M' k n p2 ls (.ref r :: st) M) : EV mt R res M' k n pc ls (.int i :: .ref a :: st) M := by
  intro X p l e s m args below meth c H locs A hC hR hS hl
  obtain ⟨h, rfl⟩ := h
  obtain ⟨hc, hin, hr⟩ := aR_spec hg
  have he := ws_get (x := X) (hR.lt (a := a) (by omega))
  rw [qent_ref hc (by omega)] at he
  have ht : ∃ ty : FieldType, (tysOf X)[kd - 100]? = some (X.2.1 (kd - 100), ty) ∧ ty.isReference = true := by
    have : kd = 104 ∨ kd = 105 ∨ kd = 106 := by omega
    rcases this with rfl | rfl | rfl
    · exact ⟨_, rfl, rfl⟩
    · exact ⟨_, rfl, rfl⟩
    · exact ⟨_, rfl, rfl⟩
  obtain ⟨ty, ht, hty⟩ := ht
  have hlt : i.toNatClampNeg < (M.1.2.1 a).2 := Nat.not_le.mp fun q => hin (Or.inr q)
  have hnx := nx X p l e s m args below meth c H locs A hC hR hS hl
  exact W.aald (v := va_rf (shO X.2.2.1 (M.1.2.2 a i.toNatClampNeg))) (ty := ty) hC.1 hC.2.1 (hR.2.1 a _ he) ((hC.2.2.2.2.2.2.1.1.2 (kd - 100) _ ht).1 (M.1.2.1 a).2 (fun j => va_rf (shO X.2.2.1 (M.1.2.2 a j)))) hty (fun q => by cases q) (by show ¬ (i < 0 ∨ (arrV _ _ _).slots.size ≤ _); rw [arrV_size]; exact hin) (by show (arrV _ _ _).slots[_]? = _; rw [arrV_read _ _ hlt]) rfl rfl h (by rw [hr]; exact hnx)
theorem e_alen {a : Nat} {v : Int32} (h : DC mt pc .arraylength 1 p2) (hg : aN a M = some v) (nx : EV mt R res M' k n p2 ls (.int v :: st) M) : EV mt R res M' k n pc ls (.ref a :: st) M := by
  intro X p l e s m args below meth c H locs A hC hR hS hl
  obtain ⟨h, rfl⟩ := h
  unfold aN at hg
  split at hg
  · next hc =>
    have hv := Option.some.inj hg
    have he := ws_get (x := X) (hR.lt (a := a) (by omega))
    have ht : ∃ ty, (tysOf X)[(M.1.2.1 a).1 - 100]? = some (X.2.1 ((M.1.2.1 a).1 - 100), ty) := by
      generalize (M.1.2.1 a).1 = kd at hc
      have : kd = 100 ∨ kd = 101 ∨ kd = 102 ∨ kd = 103 ∨ kd = 104 ∨ kd = 105 ∨ kd = 106 := by omega
      rcases this with rfl | rfl | rfl | rfl | rfl | rfl | rfl <;> exact ⟨_, rfl⟩
    obtain ⟨ty, ht⟩ := ht
    by_cases h1 : (M.1.2.1 a).1 < 103
    · rw [qent_int rfl ⟨hc.1, h1⟩] at he
      exact va_alen (D := X.1) (tys := tysOf X) hC.1 hC.2.1 hC.2.2.2.2.2.2.1.1 hR.2.1 a _ he ht hv h (nx X p l e s m args below meth c H locs A hC hR hS hl)
    · by_cases h2 : (M.1.2.1 a).1 = 103
      · rw [qent_long h2] at he
        exact va_alen (D := X.1) (tys := tysOf X) hC.1 hC.2.1 hC.2.2.2.2.2.2.1.1 hR.2.1 a 3 he rfl hv h (nx X p l e s m args below meth c H locs A hC hR hS hl)
      · rw [qent_ref rfl (by omega)] at he
        exact va_alen (D := X.1) (tys := tysOf X) hC.1 hC.2.1 hC.2.2.2.2.2.2.1.1 hR.2.1 a _ he ht hv h (nx X p l e s m args below meth c H locs A hC hR hS hl)
  · cases hg
/-- an array's cell is written -/
theorem arr_put {X : QX} {M M1 : MM} {H H1 : Heap} {a : Nat} {cA : ClassId} {y : vp_A} (hR : Rp X M H) (hlt : a < M.1.1) (he : (wsOf X M)[a]? = some (X.2.2.1 + a, qent X M a)) (h0 : M1.1.1 = M.1.1) (h1 : M1.1.2.1 = M.1.2.1) (hb : ∀ b, b ≠ a → M1.2.1 b = M.2.1 b ∧ M1.2.2 b = M.2.2 b ∧ M1.1.2.2 b = M.1.2.2 b)
    (hE : qent X M1 a = .inl (cA, y)) (e1 : H1[X.2.2.1 + a]? = some (vp_cell cA y)) (z : H1.size = H.size) (oq : ∀ q9, q9 ≠ X.2.2.1 + a → H1[q9]? = H[q9]?) : Rp X M1 H1 := by
  refine ⟨by rw [z, h0]; exact hR.1, ?_, fun b hb9 => by rw [h1]; exact hR.2.2 b (by rw [← h0]; exact hb9)⟩
  have hset := hR.2.1.set (ws_D X M) he (e := .inl (cA, y)) (H1 := H1) e1 oq
  rw [ws_set (M1 := M1) h0 hlt hE (fun b hb9 => qent_congr (by rw [h1]) (hb b hb9).1 (hb b hb9).2.1 (hb b hb9).2.2)] at hset
  exact hset
theorem sI_spec {kd a : Nat} {i v : Int32} {M1 : MM} (h : sI kd a i v M = some M1) : (M.1.2.1 a).1 = kd ∧ vp_in i (M.1.2.1 a).2 ∧ M1 = (M.1, upd2 M.2.1 a i.toNatClampNeg (nrw kd v), M.2.2) := by
  unfold sI at h; split at h
  · next hc => exact ⟨hc.1, hc.2, (Option.some.inj h).symm⟩
  · cases h
theorem arr_int {X : QX} {M : MM} {H H1 : Heap} {a kd : Nat} {i w : Int32} (hR : Rp X M H) (hc : (M.1.2.1 a).1 = kd) (hk : 100 ≤ kd ∧ kd < 103)
    (e1 : H1[X.2.2.1 + a]? = some ((vp_cell (X.2.1 (kd - 100)) ((M.1.2.1 a).2, .inl (M.2.1 a))).setSlot i.toNatClampNeg (.int w))) (z : H1.size = H.size) (oq : ∀ q9, q9 ≠ X.2.2.1 + a → H1[q9]? = H[q9]?) : Rp X (M.1, upd2 M.2.1 a i.toNatClampNeg w, M.2.2) H1 := by
  have hlt := hR.lt (a := a) (by omega)
  refine arr_put (M1 := (M.1, upd2 M.2.1 a i.toNatClampNeg w, M.2.2)) hR hlt (ws_get hlt) rfl rfl (fun b hb => ⟨upd2_ne hb, rfl, rfl⟩) (qent_int hc hk) ?_ z oq
  rw [e1, vp_cell_i, vp_cell_i, arrV_store]
  congr 2
  funext q
  by_cases hq : q = i.toNatClampNeg
  · subst hq; simp [updV, upd2]
  · simp [updV, upd2, hq]
theorem e_iast {a : Nat} {i v : Int32} {M1 : MM} (h : DC mt pc .iastore 1 p2) (hg : sI 100 a i v M = some M1) (nx : EV mt R res M' k n p2 ls st M1) : EV mt R res M' k n pc ls (.int v :: .int i :: .ref a :: st) M := by
  intro X p l e s m args below meth c H locs A hC hR hS hl
  obtain ⟨h, rfl⟩ := h
  obtain ⟨hc, hin, rfl⟩ := sI_spec hg
  have he := ws_get (x := X) (hR.lt (a := a) (by omega))
  rw [qent_int hc (by omega)] at he
  refine W.iast hC.1 hC.2.1 (hR.2.1 a _ he) ((hC.2.2.2.2.2.2.1.1.2 0 _ rfl).1 (M.1.2.1 a).2 (fun j => .int (M.2.1 a j))) (fun q => by cases q) (by show ¬ (i < 0 ∨ (arrV _ _ _).slots.size ≤ _); rw [arrV_size]; exact hin) rfl rfl h fun H1 e1 z oq => ?_
  exact nx X p l e s m args below meth c H1 _ A hC (arr_int hR hc (by omega) e1 z oq) (hS.put z oq (Nat.le_add_right _ _)) hl
theorem e_bast {a : Nat} {i v : Int32} {M1 : MM} (h : DC mt pc .bastore 1 p2) (hg : sI 101 a i v M = some M1) (nx : EV mt R res M' k n p2 ls st M1) : EV mt R res M' k n pc ls (.int v :: .int i :: .ref a :: st) M := by
  intro X p l e s m args below meth c H locs A hC hR hS hl
  obtain ⟨h, rfl⟩ := h
  obtain ⟨hc, hin, rfl⟩ := sI_spec hg
  have he := ws_get (x := X) (hR.lt (a := a) (by omega))
  rw [qent_int hc (by omega)] at he
  refine W.bast hC.1 hC.2.1 (hR.2.1 a _ he) ((hC.2.2.2.2.2.2.1.1.2 1 _ rfl).1 (M.1.2.1 a).2 (fun j => .int (M.2.1 a j))) (fun q => by cases q) (by show ¬ (i < 0 ∨ (arrV _ _ _).slots.size ≤ _); rw [arrV_size]; exact hin) rfl rfl h fun H1 e1 z oq => ?_
  exact nx X p l e s m args below meth c H1 _ A hC (arr_int hR hc (by omega) e1 z oq) (hS.put z oq (Nat.le_add_right _ _)) hl
theorem e_zast {a : Nat} {i v : Int32} {M1 : MM} (h : DC mt pc .bastore 1 p2) (hg : sI 102 a i v M = some M1) (nx : EV mt R res M' k n p2 ls st M1) : EV mt R res M' k n pc ls (.int v :: .int i :: .ref a :: st) M := by
  intro X p l e s m args below meth c H locs A hC hR hS hl
  obtain ⟨h, rfl⟩ := h
  obtain ⟨hc, hin, rfl⟩ := sI_spec hg
  have he := ws_get (x := X) (hR.lt (a := a) (by omega))
  rw [qent_int hc (by omega)] at he
  refine W.zast hC.1 hC.2.1 (hR.2.1 a _ he) ((hC.2.2.2.2.2.2.1.1.2 2 _ rfl).1 (M.1.2.1 a).2 (fun j => .int (M.2.1 a j))) (fun q => by cases q) (by show ¬ (i < 0 ∨ (arrV _ _ _).slots.size ≤ _); rw [arrV_size]; exact hin) rfl rfl h fun H1 e1 z oq => ?_
  exact nx X p l e s m args below meth c H1 _ A hC (arr_int hR hc (by omega) e1 z oq) (hS.put z oq (Nat.le_add_right _ _)) hl
theorem e_last {a : Nat} {i : Int32} {v : Int64} {M1 : MM} (h : DC mt pc .lastore 1 p2) (hg : sL a i v M = some M1) (nx : EV mt R res M' k n p2 ls st M1) : EV mt R res M' k n pc ls (.long v :: .int i :: .ref a :: st) M := by
  intro X p l e s m args below meth c H locs A hC hR hS hl
  obtain ⟨h, rfl⟩ := h
  unfold sL at hg
  split at hg
  · next hc =>
    cases hg
    obtain ⟨hc, hin⟩ := hc
    have hlt := hR.lt (a := a) (by omega)
    have he := ws_get (x := X) hlt
    rw [qent_long hc] at he
    refine W.last hC.1 hC.2.1 (hR.2.1 a _ he) ((hC.2.2.2.2.2.2.1.1.2 3 _ rfl).1 (M.1.2.1 a).2 (fun j => .long (M.2.2 a j))) (fun q => by cases q) (by show ¬ (i < 0 ∨ (arrV _ _ _).slots.size ≤ _); rw [arrV_size]; exact hin) rfl rfl h fun H1 e1 z oq => ?_
    refine nx X p l e s m args below meth c H1 _ A hC ?_ (hS.put z oq (Nat.le_add_right _ _)) hl
    refine arr_put (M1 := (M.1, M.2.1, upd2 M.2.2 a i.toNatClampNeg v)) hR hlt (ws_get hlt) rfl rfl (fun b hb => ⟨rfl, upd2_ne hb, rfl⟩) (qent_long hc) ?_ z oq
    rw [e1, vp_cell_l, vp_cell_l, arrV_store]
    congr 2
    funext q
    by_cases hq : q = i.toNatClampNeg
    · subst hq; simp [updV, upd2]
    · simp [updV, upd2, hq]
  · cases hg
end MEMR
end
section
/-! ===== entry, calls, returns ===== -/
def rm (d mc ms : Nat) : Room := { frames := d, cells := mc, slots := ms, locals := 64 * d }
theorem gT_good : ∀ w ∈ gT, (w.onTables && w.keeps) = true ∨ ∃ ty, w = .arrayClass ty := fun w h => good_of_word (List.mem_filter.mp h).2
theorem wsM_good {mt : MT} (h : Cond.code mt.1 mt.2.1 mt.2.2.1 mt.2.2.2 ∈ gT) : GoodIn gT (wsM mt) := by
  intro w hw
  rcases List.mem_cons.mp hw with rfl | hw
  · exact ⟨h, gT_good _ h⟩
  · exact ⟨hw, gT_good _ hw⟩
theorem PreM_blind (x : QX) (args : List Value) (M : MM) : FrameBlind (PreM x args M) := by
  intro a U g mk h
  obtain ⟨h1, h2, h3, h4⟩ := h
  exact ⟨h1, h2, KC.same (s := U) (U := U.calling g mk a) rfl h3, SC.moved (s := U) (U := U.calling g mk a) (Vm.Alike.refl U.vm) h4⟩
theorem CT.of {mt : MT} {R : Room} {args : List Value} {M : MM} {res : Option Value} {M' : MM} {ls : Lv} (hy : plainName mt.1.cls = true) (ha : ∀ B : Nat, (lg_sl (args.map (shV B))).length ≤ mt.2.2.1) (hls : lv0 args mt.2.2.1 = ls)
    (h : EV mt R res M' 0 0 0 ls [] M) : CT mt R args M res M' := by
  intro l x
  refine Met.ofW (cc := mt.2.1) (maxL := mt.2.2.1) (ret := mt.2.2.2) hy rfl ?_
  intro p e s m args0 below meth c s₁ B hml hv
  obtain ⟨rfl, hR, hK, hSC⟩ := hv
  have hts := atoms_spec (ws := wsM mt) B.pre
  rw [lg_entry_eq]
  refine h x p l e s m _ below meth c s.heap [] _ ⟨B.exec, B.bytes, B.returns, hml, findClass_of_methodNamed B.named, fun w hw => hts w (List.mem_cons_of_mem _ hw), hK, hSC, B.notSynchronized, (name_of_methodNamed B.named B.method).1, by rw [hR.1]; exact Nat.le_add_right _ _⟩ hR va_S.rf ?_
  have h1 := lv_entry (args.map (shV x.2.2.1)) (ha x.2.2.1)
  subst hls
  unfold lvo lv0
  rw [prs_app, prs_none, List.append_nil, prs_args]
  exact h1
/-- what the tables say of a method -/
def MI (mt : MT) (np : Nat) : Prop := Cond.code mt.1 mt.2.1 mt.2.2.1 mt.2.2.2 ∈ gT ∧ Cond.initialized mt.1.cls ∈ gT ∧ (mt.1.cls ≠ "java/lang/invoke/MethodHandle" ∧ mt.1.cls ≠ "java/lang/invoke/VarHandle" ∧ (parseMethodDescriptor mt.1.desc).map (fun d => d.parameters.length) = some np)
def MV (mt : MT) (np : Nat) : Prop := MI mt np ∧ Cond.instanceMethod mt.1 ∈ gT ∧ Cond.selects mt.1.cls mt.1 mt.1 ∈ gT
def MS (mt : MT) (np : Nat) : Prop := MI mt np ∧ Cond.static mt.1 ∈ gT
def MN (mt : MT) (np : Nat) : Prop := MI mt np ∧ Cond.instanceMethod mt.1 ∈ gT ∧ mt.1.name = "<init>" ∧ mt.2.2.2 = none
section CALLS
variable {mt : MT} {R : Room} {res : Option Value} {M' : MM} {k n pc p2 : Nat} {ls : Lv} {st st0 : List Value} {M : MM}
theorem run_go {X : QX} {p : Program} {l : Launch} {e : Env} {s : State} {m : MethodId} {args : Array Value} {below : List Frame} {meth : Method} {c : Code} {H : Heap} {locs : List Loc} {A : Array Slot} {mc ms : Nat} {res1 : Option Value} {M1 : MM} {a : Array Value}
    (hr : va_Run p l e R s m args below meth c H locs k n mc ms (F0 m pc A (st0.map (shV X.2.2.1))) (st.map (shV X.2.2.1)) (QR X res1 M1 a) (qA X))
    (hC : CX X mt p s m args meth c) (hS : va_S (qA X) s.heap H locs) (hl : lvo X.2.2.1 A mt.2.2.1 ls)
    (nx : EV mt R res M' (k + mc) (n + ms) (pc + 3) ls (res1.toList ++ st) M1) :
    W p l e R s m args below meth c H locs k n (MQ below (QR X res M') args s R.cells R.slots (qA X)) (F0 m pc A (st0.map (shV X.2.2.1))) := by
  intro T hT Xs
  obtain ⟨v, st₀, t, T', L, h0, X', hL, e1, e2, ⟨hv, hR1, hz, hk⟩, stp⟩ := hr T hT Xs
  have hv2 : v = res1.map (shV X.2.2.1) := Outcome.returned.inj hv
  subst hv2
  rw [h0] at hz hk
  obtain ⟨t2, a1, b1⟩ := nx X p l e s m args below meth c T'.heap (locs ++ L) A hC (by rw [e1]; exact hR1)
    ⟨Nat.le_trans hS.1 (by rw [e1]; exact hz), fun q h1 h2 => by rw [e1, hk q (Nat.lt_of_lt_of_le h1 hS.1) h2]; exact hS.2.1 q h1 h2, fun q hq => by
      rcases List.mem_append.mp hq with h | h
      · exact hS.2.2 q h
      · exact hL q h⟩ hl T' rfl X'
  refine ⟨t2, stp t2 ?_, b1⟩
  have hst : (res1.map (shV X.2.2.1)).toList ++ st.map (shV X.2.2.1) = (res1.toList ++ st).map (shV X.2.2.1) := by cases res1 <;> simp
  rw [hst]
  exact a1
theorem pre_at {X : QX} {p : Program} {s : State} {m : MethodId} {args : Array Value} {meth : Method} {c : Code} {H : Heap} {locs : List Loc} {as : List Value} (hC : CX X mt p s m args meth c) (hR : Rp X M H) (hS : va_S (qA X) s.heap H locs) : ∀ U : State, U.heap = H → s.WarmedH U.vm → PreM X as M (as.map (shV X.2.2.1)).toArray U := by
  intro U hU hW
  refine ⟨rfl, by rw [hU]; exact hR, KC.warm hW hC.2.2.2.2.2.2.1, ?_⟩
  rw [hU]
  exact SC.moved hW.alike (SC.kept hC.2.2.2.2.2.2.2.1 hS.2.1)
theorem cat_sum (B : Nat) (st : List Value) : ((st.map (shV B)).map fun v => v.category) = st.map fun v => v.category := by
  rw [List.map_map]; apply List.map_congr_left; intro v _; exact shV_cat B v
theorem e_callV {mt1 : MT} {R1 : Room} {As : List Value} {b ci ix np : Nat} {res1 : Option Value} {M1 : MM} (h : DC mt pc (.invokevirtual ix) 3 p2) (hlk : Cond.methodLink mt.1.cls ix mt1.1 ∈ gT) (hm : MV mt1 np) (hc : CT mt1 R1 (.ref b :: As) M res1 M1)
    (hst : As.reverse ++ .ref b :: st = st0) (hnp : As.length = np) (hb : (M.1.2.1 b).1 = ci) (hci : (classes[ci]?).map (fun q => q.1) = some mt1.1.cls) (hcat : (st.map fun v => v.category).sum ≤ 8) (hf : R1.frames + 1 ≤ R.frames) (hlo : 8 + (mt1.2.2.1 + 11) + R1.locals ≤ R.locals) (hk : k + R1.cells ≤ R.cells) (hn : n + R1.slots ≤ R.slots)
    (nx : EV mt R res M' (k + R1.cells) (n + R1.slots) p2 ls (res1.toList ++ st) M1) : EV mt R res M' k n pc ls st0 M := by
  intro X p l e s m args below meth c H locs A hC hR hS hl
  obtain ⟨h, rfl⟩ := h
  subst hst
  have hts := hC.2.2.2.2.2.1
  obtain ⟨⟨hcode, hini, hd⟩, hin, hse⟩ := hm
  cases hq : classes[ci]? with
  | none => rw [hq] at hci; cases hci
  | some q =>
    rw [hq] at hci
    have hq1 : q.1 = mt1.1.cls := Option.some.inj hci
    have h13 : ci < 13 := (List.getElem?_eq_some_iff.mp hq).1
    have he := ws_get (x := X) (hR.lt (a := b) (by omega))
    rw [qent_obj hb h13] at he
    have hrv := va_recv hC.2.2.2.2.2.2.1.1 hR.2.1 hq he
    rw [hq1] at hrv
    have hsh : ((As.reverse ++ Value.ref b :: st).map (shV X.2.2.1)) = (As.map (shV X.2.2.1)).reverse ++ Value.ref (X.2.2.1 + b) :: st.map (shV X.2.2.1) := by
      rw [List.map_append, List.map_reverse]; rfl
    exact run_go (st := st) (st0 := As.reverse ++ Value.ref b :: st) (
      va_runV (Ts := gT) (own := mt.1.cls) (C := mt1.1.cls) (nL := mt.2.2.1) (n := np) (b := X.2.2.1 + b) (As := As.map (shV X.2.2.1)) (cc := mt.2.1) ⟨hC.1, hC.2.1, hC.2.2.2.1, hC.2.2.2.2.1, hts⟩ (hc l X)
      ⟨callB_of np hts (wsM_good hcode) rfl rfl rfl (hts _ hini) (hts _ hlk) hd ⟨hf, hlo⟩, hts _ hin, hts _ hse⟩
      ⟨PreM_blind _ _ _, hrv, pre_at (as := .ref b :: As) hC hR hS⟩ rfl (by rw [List.length_map]; exact hnp) hl.1 hsh (by show 2 * 0 + _ ≤ 8; rw [cat_sum]; omega) h ⟨hk, hn⟩) hC hS hl nx
theorem e_callS {mt1 : MT} {R1 : Room} {As : List Value} {ix np : Nat} {res1 : Option Value} {M1 : MM} (h : DC mt pc (.invokestatic ix) 3 p2) (hlk : Cond.methodLink mt.1.cls ix mt1.1 ∈ gT) (hm : MS mt1 np) (hc : CT mt1 R1 As M res1 M1)
    (hst : As.reverse ++ st = st0) (hnp : As.length = np) (hcat : (st.map fun v => v.category).sum ≤ 8) (hf : R1.frames + 1 ≤ R.frames) (hlo : 8 + (mt1.2.2.1 + 11) + R1.locals ≤ R.locals) (hk : k + R1.cells ≤ R.cells) (hn : n + R1.slots ≤ R.slots)
    (nx : EV mt R res M' (k + R1.cells) (n + R1.slots) p2 ls (res1.toList ++ st) M1) : EV mt R res M' k n pc ls st0 M := by
  intro X p l e s m args below meth c H locs A hC hR hS hl
  obtain ⟨h, rfl⟩ := h
  subst hst
  have hts := hC.2.2.2.2.2.1
  obtain ⟨⟨hcode, hini, hd⟩, hsta⟩ := hm
  have hsh : ((As.reverse ++ st).map (shV X.2.2.1)) = (As.map (shV X.2.2.1)).reverse ++ st.map (shV X.2.2.1) := by
    rw [List.map_append, List.map_reverse]
  exact run_go (st := st) (st0 := As.reverse ++ st) (
    va_runS (Ts := gT) (own := mt.1.cls) (nL := mt.2.2.1) (n := np) (As := As.map (shV X.2.2.1)) (cc := mt.2.1) ⟨hC.1, hC.2.1, hC.2.2.2.1, hC.2.2.2.2.1, hts⟩ (hc l X)
    ⟨callB_of np hts (wsM_good hcode) rfl rfl rfl (hts _ hini) (hts _ hlk) hd ⟨hf, hlo⟩, hts _ hsta⟩
    ⟨PreM_blind _ _ _, pre_at (as := As) hC hR hS⟩ rfl (by rw [List.length_map]; exact hnp) hl.1 hsh (by show 2 * 0 + _ ≤ 8; rw [cat_sum]; omega) h ⟨hk, hn⟩) hC hS hl nx
theorem e_callI {mt1 : MT} {R1 : Room} {As : List Value} {b ix np : Nat} {M1 : MM} (h : DC mt pc (.invokespecial ix) 3 p2) (hlk : Cond.methodLink mt.1.cls ix mt1.1 ∈ gT) (hm : MN mt1 np) (hc : CT mt1 R1 (.ref b :: As) M none M1)
    (hst : As.reverse ++ .ref b :: st = st0) (hnp : As.length = np) (hcat : (st.map fun v => v.category).sum ≤ 8) (hf : R1.frames + 1 ≤ R.frames) (hlo : 8 + (mt1.2.2.1 + 11) + R1.locals ≤ R.locals) (hk : k + R1.cells ≤ R.cells) (hn : n + R1.slots ≤ R.slots)
    (nx : EV mt R res M' (k + R1.cells) (n + R1.slots) p2 ls st M1) : EV mt R res M' k n pc ls st0 M := by
  intro X p l e s m args below meth c H locs A hC hR hS hl
  obtain ⟨h, rfl⟩ := h
  subst hst
  have hts := hC.2.2.2.2.2.1
  obtain ⟨⟨hcode, hini, hd⟩, hin, hnm, hret⟩ := hm
  have hsh : ((As.reverse ++ Value.ref b :: st).map (shV X.2.2.1)) = (As.map (shV X.2.2.1)).reverse ++ Value.ref (X.2.2.1 + b) :: st.map (shV X.2.2.1) := by
    rw [List.map_append, List.map_reverse]; rfl
  exact run_go (st := st) (st0 := As.reverse ++ Value.ref b :: st) (res1 := none) (
    va_runI (Ts := gT) (own := mt.1.cls) (nL := mt.2.2.1) (n := np) (b := X.2.2.1 + b) (As := As.map (shV X.2.2.1)) (cc := mt.2.1) ⟨hC.1, hC.2.1, hC.2.2.2.1, hC.2.2.2.2.1, hts⟩ (hc l X)
    ⟨callB_of np hts (by have := wsM_good hcode; exact this) (by unfold wsM; rw [hret]) rfl rfl (hts _ hini) (hts _ hlk) hd ⟨hf, hlo⟩, hnm, hts _ hin⟩
    ⟨PreM_blind _ _ _, pre_at (as := .ref b :: As) hC hR hS⟩ rfl (by rw [List.length_map]; exact hnp) hl.1 hsh (by show 2 * 0 + _ ≤ 8; rw [cat_sum]; omega) h ⟨hk, hn⟩) hC hS hl nx
theorem e_callIN {mt1 : MT} {R1 : Room} {As : List Value} {b ix np : Nat} {M1 : MM} {host : String} (h : DC mt pc (.invokespecial ix) 3 p2) (hlk : Cond.methodLinkNest mt.1.cls ix mt1.1 host ∈ nestL) (hm : MN mt1 np) (hc : CT mt1 R1 (.ref b :: As) M none M1)
    (hst : As.reverse ++ .ref b :: st = st0) (hnp : As.length = np) (hcat : (st.map fun v => v.category).sum ≤ 8) (hf : R1.frames + 1 ≤ R.frames) (hlo : 8 + (mt1.2.2.1 + 11) + R1.locals ≤ R.locals) (hk : k + R1.cells ≤ R.cells) (hn : n + R1.slots ≤ R.slots)
    (nx : EV mt R res M' (k + R1.cells) (n + R1.slots) p2 ls st M1) : EV mt R res M' k n pc ls st0 M := by
  intro X p l e s m args below meth c H locs A hC hR hS hl
  obtain ⟨h, rfl⟩ := h
  subst hst
  have hts := hC.2.2.2.2.2.1
  obtain ⟨⟨hcode, hini, hd⟩, hin, hnm, hret⟩ := hm
  have hsh : ((As.reverse ++ Value.ref b :: st).map (shV X.2.2.1)) = (As.map (shV X.2.2.1)).reverse ++ Value.ref (X.2.2.1 + b) :: st.map (shV X.2.2.1) := by
    rw [List.map_append, List.map_reverse]; rfl
  exact run_go (st := st) (st0 := As.reverse ++ Value.ref b :: st) (res1 := none) (
    va_runIN (Ts := gT) (own := mt.1.cls) (host := host) (nL := mt.2.2.1) (n := np) (b := X.2.2.1 + b) (As := As.map (shV X.2.2.1)) (cc := mt.2.1) ⟨hC.1, hC.2.1, hC.2.2.2.1, hC.2.2.2.2.1, hts⟩ (hc l X)
    ⟨va_cnB np hts (by have := wsM_good hcode; exact this) (by unfold wsM; rw [hret]) rfl rfl (hC.2.2.2.2.2.2.1.2.1 _ hlk) (hts _ hini) hd ⟨hf, hlo⟩, hnm, hts _ hin⟩
    ⟨PreM_blind _ _ _, pre_at (as := .ref b :: As) hC hR hS⟩ rfl (by rw [List.length_map]; exact hnp) hl.1 hsh (by show 2 * 0 + _ ≤ 8; rw [cat_sum]; omega) h ⟨hk, hn⟩) hC hS hl nx
/-- Object's own constructor -/
theorem e_objInit {b ix : Nat} (h : DC mt pc (.invokespecial ix) 3 p2) (hlk : Cond.methodLink mt.1.cls ix objectInit ∈ gT) (hin : Cond.instanceMethod objectInit ∈ gT) (hcode : Cond.code objectInit ⟨#[0xb1]⟩ 1 none ∈ gT) (hcat : (st.map fun v => v.category).sum ≤ 8) (hf : 1 ≤ R.frames) (hlo : 20 ≤ R.locals)
    (nx : EV mt R res M' k n p2 ls st M) : EV mt R res M' k n pc ls (.ref b :: st) M := by
  intro X p l e s m args below meth c H locs A hC hR hS hl
  obtain ⟨h, rfl⟩ := h
  have hts := hC.2.2.2.2.2.1
  refine W.objInit hC.1 hC.2.1 hC.2.2.2.2.1 (hts _ hlk) (hts _ hin) (hts _ hcode) rfl (hl.1.trans hC.2.2.2.1.symm) (rest := st.map (shV X.2.2.1)) rfl h hf ?_ (nx X p l e s m args below meth c H locs A hC hR hS hl)
  show 2 * 0 + _ + 12 ≤ _
  rw [cat_sum]
  omega
theorem e_iret {v : Int32} (h : DC mt pc .ireturn 1 p2) (hr : mt.2.2.2 = some .int) (hk : k ≤ R.cells) (hn : n ≤ R.slots) : EV mt R (some (.int v)) M k n pc ls [.int v] M := by
  intro X p l e s m args below meth c H locs A hC hR hS hl
  obtain ⟨h, rfl⟩ := h
  refine W.widen hk hn ?_
  exact W.iret hC.1 hC.2.1 (by rw [hC.2.2.1]; exact hr) (fun t ht hW => ⟨rfl, by rw [ht]; exact hR, hS.F ht⟩) hS.2.2 h hC.2.2.2.2.2.2.2.2.1
theorem e_zret {v : Int32} {ty : FieldType} (h : DC mt pc .ireturn 1 p2) (hr : mt.2.2.2 = some ty) (hnr : narrow ty (.int v) = .int v) (hk : k ≤ R.cells) (hn : n ≤ R.slots) : EV mt R (some (.int v)) M k n pc ls [.int v] M := by
  intro X p l e s m args below meth c H locs A hC hR hS hl
  obtain ⟨h, rfl⟩ := h
  refine W.widen hk hn ?_
  exact W.zret hC.1 hC.2.1 (by rw [hC.2.2.1]; exact hr) hnr (fun t ht hW => ⟨rfl, by rw [ht]; exact hR, hS.F ht⟩) hS.2.2 h hC.2.2.2.2.2.2.2.2.1
theorem e_lret {v : Int64} (h : DC mt pc .lreturn 1 p2) (hr : mt.2.2.2 = some .long) (hk : k ≤ R.cells) (hn : n ≤ R.slots) : EV mt R (some (.long v)) M k n pc ls [.long v] M := by
  intro X p l e s m args below meth c H locs A hC hR hS hl
  obtain ⟨h, rfl⟩ := h
  refine W.widen hk hn ?_
  exact W.lret hC.1 hC.2.1 (by rw [hC.2.2.1]; exact hr) (fun t ht hW => ⟨rfl, by rw [ht]; exact hR, hS.F ht⟩) hS.2.2 h hC.2.2.2.2.2.2.2.2.1
theorem e_vret (h : DC mt pc .return_ 1 p2) (hr : mt.2.2.2 = none) (hk : k ≤ R.cells) (hn : n ≤ R.slots) : EV mt R none M k n pc ls [] M := by
  intro X p l e s m args below meth c H locs A hC hR hS hl
  obtain ⟨h, rfl⟩ := h
  refine W.widen hk hn ?_
  exact W.vret hC.1 hC.2.1 (by rw [hC.2.2.1]; exact hr) (fun t ht hW => ⟨rfl, by rw [ht]; exact hR, hS.F ht⟩) hS.2.2 h hC.2.2.2.2.2.2.2.2.1
theorem e_aret {r : Option Nat} {ty : FieldType} (h : DC mt pc .areturn 1 p2) (hr : mt.2.2.2 = some ty) (hrt : (∃ n, ty = .object n) ∨ ∃ t, ty = .array t) (hk : k ≤ R.cells) (hn : n ≤ R.slots) : EV mt R (some (vr r)) M k n pc ls [vr r] M := by
  intro X p l e s m args below meth c H locs A hC hR hS hl
  obtain ⟨h, rfl⟩ := h
  refine W.widen hk hn ?_
  exact W.aret (v := shV X.2.2.1 (vr r)) hC.1 hC.2.1 (by rw [hC.2.2.1]; exact hr) hrt (by cases r; exact Or.inl rfl; exact Or.inr ⟨_, rfl⟩) (fun t ht hW => ⟨rfl, by rw [ht]; exact hR, hS.F ht⟩) hS.2.2 h hC.2.2.2.2.2.2.2.2.1
end CALLS
end
section
/-! ===== cells that are made; copies of arrays ===== -/
/-- one cell more: an object of the class kd, or an array of kind kd with len places -/
def nwC (kd len : Nat) (M : MM) : MM := ((M.1.1 + 1, fun b => if b = M.1.1 then (kd, len) else M.1.2.1 b, fun b => if b = M.1.1 then (fun _ => none) else M.1.2.2 b), fun b => if b = M.1.1 then (fun _ => 0) else M.2.1 b, fun b => if b = M.1.1 then (fun _ => 0) else M.2.2 b)
theorem nwC_old {x : QX} {kd len : Nat} {M : MM} {a : Nat} (h : a ≠ M.1.1) : qent x (nwC kd len M) a = qent x M a :=
  qent_congr (by simp [nwC, h]) (by simp [nwC, h]) (by simp [nwC, h]) (by simp [nwC, h])
theorem ws_nw (x : QX) (kd len : Nat) (M : MM) : wsOf x (nwC kd len M) = wsOf x M ++ [(x.2.2.1 + M.1.1, qent x (nwC kd len M) M.1.1)] := by
  have h1 : (nwC kd len M).1.1 = M.1.1 + 1 := rfl
  unfold wsOf
  rw [h1, List.range_succ, List.map_append]
  congr 1
  apply List.map_congr_left
  intro a ha
  rw [nwC_old (Nat.ne_of_lt (List.mem_range.mp ha))]
theorem Rp.nw {x : QX} {kd len : Nat} {M : MM} {H H1 : Heap} (hR : Rp x M H) (z1 : H1.size = H.size + 1) (o1 : ∀ q, q < H.size → H1[q]? = H[q]?) (he : va_at x.1 classes (x.2.2.1 + M.1.1, qent x (nwC kd len M) M.1.1) H1) : Rp x (nwC kd len M) H1 := by
  refine ⟨by rw [z1, hR.1]; rfl, ?_, fun a ha => ?_⟩
  · rw [ws_nw]
    exact (hR.2.1.kept (fun j q hq => o1 q.1 ((hR.2.1 j q hq).lt))).app (fun j q hq => by
      have hz : j < 1 := (List.getElem?_eq_some_iff.mp hq).1
      rw [show j = 0 by omega] at hq
      cases hq
      exact he)
  · have h1 : M.1.1 + 1 ≤ a := ha
    have h2 : (nwC kd len M).1.2.1 a = M.1.2.1 a := by simp [nwC, show a ≠ M.1.1 by omega]
    rw [h2]
    exact hR.2.2 a (by omega)
theorem va_S.nw {A : Nat → Prop} {H0 H H1 : Heap} {locs : List Loc} (hS : va_S A H0 H locs) (z1 : H.size ≤ H1.size) (o1 : ∀ q, q < H.size → H1[q]? = H[q]?) : va_S A H0 H1 locs :=
  ⟨Nat.le_trans hS.1 z1, fun q h1 h2 => (o1 q (Nat.lt_of_lt_of_le h1 hS.1)).trans (hS.2.1 q h1 h2), hS.2.2⟩
section ALLOC
variable {mt : MT} {R : Room} {res : Option Value} {M' : MM} {k n pc p2 : Nat} {ls : Lv} {st : List Value} {M : MM}
theorem e_new {ci ix : Nat} {q : vw_C} (h : DC mt pc (.new ix) 3 p2) (ck : CK ci q) (hl9 : Cond.classLink mt.1.cls ix q.1 ∈ gT) (hi9 : Cond.instantiable q.1 q.2.2 ∈ gT) (hn9 : Cond.initialized q.1 ∈ gT) (hdf : ∀ B : Nat, ∀ M9 : MM, ∀ a, (∀ j, M9.2.1 a j = 0) → (∀ j, M9.2.2 a j = 0) → (∀ j, M9.1.2.2 a j = none) → ∀ j, j < qnf ci → defaultValue (qty ci j) = qfv B M9 a j (qty ci j))
    (hk : k + 1 ≤ R.cells) (hn : n + q.2.2 ≤ R.slots) (nx : EV mt R res M' (k + 1) (n + q.2.2) p2 ls (.ref M.1.1 :: st) (nwC ci 0 M)) : EV mt R res M' k n pc ls st M := by
  intro X p l e s m args below meth c H locs A hC hR hS hl
  obtain ⟨h, rfl⟩ := h
  have hts := hC.2.2.2.2.2.1
  have hK := hC.2.2.2.2.2.2.1.1
  have hKn := hK.1 ci _ ck.1
  refine W.newcK hC.1 hC.2.1 hC.2.2.2.2.1 (hts _ hl9) (hts _ hi9) (hts _ hn9) rfl h hk hn hKn.2.1 (h := X.2.2.1 + M.1.1) hR.1 fun H1 kC hkC e1 z1 o1 => ?_
  rw [← hR.1] at z1 o1
  refine nx X p l e s m args below meth c H1 locs A hC (hR.nw z1 o1 ?_) (hS.nw (by omega) o1) hl
  have h9 : (nwC ci 0 M).1.2.1 M.1.1 = (ci, 0) := by simp [nwC]
  rw [qent_obj (ci := ci) (by rw [h9]) ck.lt]
  refine ⟨q, ck.1, (u_born (qty ci) hts ck.2.2.1 hKn hkC e1 ck.2.2.2.1).to fun j hj => ?_⟩
  have hj2 : j < qnf ci := by rw [← ck.2.1]; exact hj
  rw [hdf X.2.2.1 (nwC ci 0 M) M.1.1 (by intro j; simp [nwC]) (by intro j; simp [nwC]) (by intro j; simp [nwC]) j hj2]
  show _ = vp_V _ j
  unfold vp_V
  rw [List.getD_eq_getElem?_getD, qfs_at hj2]
  rfl
theorem e_newa {kd len : Nat} {v : Int32} {at9 : ArrayType} {ty : FieldType} (h : DC mt pc (.newarray at9) 2 p2) (hty : newarray.typeOf at9 = ty) (ha : Cond.arrayClass ty ∈ gT) (hkd : (kd = 100 ∧ ty = .int) ∨ (kd = 101 ∧ ty = .byte) ∨ (kd = 102 ∧ ty = .boolean) ∨ (kd = 103 ∧ ty = .long)) (hv : ¬ v < 0) (hlen : v.toNatClampNeg = len) (hsm : len ≤ 1000000)
    (hk : k + 1 ≤ R.cells) (hn : n + len ≤ R.slots) (nx : EV mt R res M' (k + 1) (n + len) p2 ls (.ref M.1.1 :: st) (nwC kd len M)) : EV mt R res M' k n pc ls (.int v :: st) M := by
  intro X p l e s m args below meth c H locs A hC hR hS hl
  obtain ⟨h, rfl⟩ := h
  have hts := hC.2.2.2.2.2.1
  have hK := hC.2.2.2.2.2.2.1.1
  subst hty
  refine va_newaK hC.1 hC.2.1 (hts _ ha) rfl h rfl hv hlen ?_ hk hn (h := X.2.2.1 + M.1.1) hR.1 fun H1 cA e1 z1 o1 hAr hNm => ?_
  · cases at9 <;> simp [newarray.typeOf, componentBytes] <;> omega
  rw [← hR.1] at z1 o1
  refine nx X p l e s m args below meth c H1 locs A hC (hR.nw z1 o1 ?_) (hS.nw (by omega) o1) hl
  have h9 : (nwC kd len M).1.2.1 M.1.1 = (kd, len) := by simp [nwC]
  rcases hkd with ⟨rfl, h8⟩ | ⟨rfl, h8⟩ | ⟨rfl, h8⟩ | ⟨rfl, h8⟩
  · rw [qent_int (kd := 100) (by rw [h9]) (by omega), h9]
    have hc : cA = X.2.1 0 := Option.some.inj (hNm.symm.trans (by rw [h8]; exact (hK.2 0 _ rfl).2))
    rw [h8] at e1
    show H1[_]? = some (vp_cell _ _)
    rw [e1, vp_cell_i, hc]
    congr 2; funext j; simp [nwC, defaultValue]
  · rw [qent_int (kd := 101) (by rw [h9]) (by omega), h9]
    have hc : cA = X.2.1 1 := Option.some.inj (hNm.symm.trans (by rw [h8]; exact (hK.2 1 _ rfl).2))
    rw [h8] at e1
    show H1[_]? = some (vp_cell _ _)
    rw [e1, vp_cell_i, hc]
    congr 2; funext j; simp [nwC, defaultValue]
  · rw [qent_int (kd := 102) (by rw [h9]) (by omega), h9]
    have hc : cA = X.2.1 2 := Option.some.inj (hNm.symm.trans (by rw [h8]; exact (hK.2 2 _ rfl).2))
    rw [h8] at e1
    show H1[_]? = some (vp_cell _ _)
    rw [e1, vp_cell_i, hc]
    congr 2; funext j; simp [nwC, defaultValue]
  · rw [qent_long (by rw [h9]), h9]
    have hc : cA = X.2.1 3 := Option.some.inj (hNm.symm.trans (by rw [h8]; exact (hK.2 3 _ rfl).2))
    rw [h8] at e1
    show H1[_]? = some (vp_cell _ _)
    rw [e1, vp_cell_l, hc]
    congr 2; funext j; simp [nwC, defaultValue]
theorem e_newq {kd len ix : Nat} {v : Int32} {C : String} (h : DC mt pc (.anewarray ix) 3 p2) (hl9 : Cond.classLink mt.1.cls ix C ∈ gT) (ho9 : Cond.arrayOver (.object C) ∈ gT) (hkd : (kd = 104 ∧ C = "QuarterBoards$Shape") ∨ (kd = 105 ∧ C = "QuarterBoards$Form")) (hv : ¬ v < 0) (hlen : v.toNatClampNeg = len) (hsm : len ≤ 1000000)
    (hk : k + 1 ≤ R.cells) (hn : n + len ≤ R.slots) (nx : EV mt R res M' (k + 1) (n + len) p2 ls (.ref M.1.1 :: st) (nwC kd len M)) : EV mt R res M' k n pc ls (.int v :: st) M := by
  intro X p l e s m args below meth c H locs A hC hR hS hl
  obtain ⟨h, rfl⟩ := h
  have hts := hC.2.2.2.2.2.1
  have hK := hC.2.2.2.2.2.2.1.1
  subst hlen
  refine W.anew hC.1 hC.2.1 hC.2.2.2.2.1 (hts _ hl9) (hts _ ho9) rfl h rfl hv (by omega) hk hn fun cA kA comp f1 f2 f3 f4 => ?_
  generalize hH1 : H.push ({ cls := cA, slots := Array.replicate v.toNatClampNeg .null, vm := .none } : Cell) = H1
  have z1 : H1.size = H.size + 1 := by rw [← hH1, Array.size_push]
  have e1 : H1[H.size]? = some (arrV cA v.toNatClampNeg (fun _ => .null)) := by rw [← hH1, Array.getElem?_push_size, ← arrV_new]
  have o1 : ∀ q : Nat, q < H.size → H1[q]? = H[q]? := fun q hq => by rw [← hH1, Array.getElem?_push, if_neg (Nat.ne_of_lt hq)]
  have hnx := nx X p l e s m args below meth c H1 locs A hC (hR.nw z1 o1 ?_) (hS.nw (by omega) o1) hl
  · rw [hR.1]; exact hnx
  have h9 : (nwC kd v.toNatClampNeg M).1.2.1 M.1.1 = (kd, v.toNatClampNeg) := by simp [nwC]
  rw [← hR.1]
  rcases hkd with ⟨rfl, rfl⟩ | ⟨rfl, rfl⟩
  · rw [qent_ref (kd := 104) (by rw [h9]) (by omega), h9]
    obtain ⟨kA2, comp2, g1, g2, g3, g4⟩ := (hK.2 4 _ rfl).2
    have hc : cA = X.2.1 4 := Option.some.inj (f1.symm.trans g4)
    show H1[_]? = some (vp_cell _ _)
    rw [e1, vp_cell_q, hc]
    congr 2; funext j; simp [nwC, shO, va_rf]
  · rw [qent_ref (kd := 105) (by rw [h9]) (by omega), h9]
    obtain ⟨kA2, comp2, g1, g2, g3, g4⟩ := (hK.2 5 _ rfl).2
    have hc : cA = X.2.1 5 := Option.some.inj (f1.symm.trans g4)
    show H1[_]? = some (vp_cell _ _)
    rw [e1, vp_cell_q, hc]
    congr 2; funext j; simp [nwC, shO, va_rf]
/-- a reference into an array of references -/
theorem e_aast {kd ci a r : Nat} {i : Int32} {M1 : MM} (h : DC mt pc .aastore 1 p2) (hkd : (kd = 104 ∧ ci = 7) ∨ (kd = 105 ∧ ci = 4)) (hg : sR kd ci a i r M = some M1) (nx : EV mt R res M' k n p2 ls st M1) : EV mt R res M' k n pc ls (.ref r :: .int i :: .ref a :: st) M := by
  intro X p l e s m args below meth c H locs A hC hR hS hl
  obtain ⟨h, rfl⟩ := h
  unfold sR at hg
  split at hg
  · next hc =>
    cases hg
    obtain ⟨⟨hc, hin⟩, hr⟩ := hc
    have hlt := hR.lt (a := a) (by omega)
    have he := ws_get (x := X) hlt
    rw [qent_ref hc (by omega)] at he
    have hv := ws_get (x := X) (hR.lt (a := r) (by omega))
    rw [qent_obj hr (by omega)] at hv
    have hK := hC.2.2.2.2.2.2.1.1
    have hlt2 : i.toNatClampNeg < (M.1.2.1 a).2 := Nat.not_le.mp fun q => hin (Or.inr q)
    have h0 : ¬ i < 0 := fun q => hin (Or.inl q)
    have hty : ∃ q : vw_C, classes[ci]? = some q ∧ (tysOf X)[kd - 100]? = some (X.2.1 (kd - 100), .object q.1) := by
      rcases hkd with ⟨rfl, rfl⟩ | ⟨rfl, rfl⟩
      · exact ⟨_, rfl, rfl⟩
      · exact ⟨_, rfl, rfl⟩
    obtain ⟨q, hq, ht⟩ := hty
    obtain ⟨r', hr', cellV, g1, g2, g3, -⟩ := hR.2.1 r _ hv
    have hcls := (hK.1 ci q hq).2
    obtain ⟨kA, comp, k1, k2, k3, -⟩ := (hK.2 (kd - 100) _ ht).2
    have hcomp : comp = X.1.1 ci := Option.some.inj (k3.symm.trans hcls.1)
    subst hcomp
    obtain ⟨kC, hkC, -⟩ := hcls.2
    refine W.aast hC.1 hC.2.1 (hR.2.1 a _ he) (fun q h => by cases h) (fun h => by cases h) k1 k2 rfl hkC ⟨h0, by show _ < (arrV _ _ _).slots.size; rw [arrV_size]; exact hlt2⟩ g1 (fun q h => by rw [g3] at h; cases h) (by rw [g2]; exact hkC) (by rw [g2]; exact va_assign hcls) rfl rfl h fun H1 e1 z oq => ?_
    refine nx X p l e s m args below meth c H1 _ A hC ?_ (hS.put z oq (Nat.le_add_right _ _)) hl
    refine arr_put (M1 := ((M.1.1, M.1.2.1, upd2 M.1.2.2 a i.toNatClampNeg (some r)), M.2)) hR hlt (ws_get hlt) rfl rfl (fun b hb => ⟨rfl, rfl, upd2_ne hb⟩) (qent_ref hc (by omega)) ?_ z oq
    rw [e1, vp_cell_q, vp_cell_q, arrV_store]
    congr 2
    funext q
    by_cases hq : q = i.toNatClampNeg
    · subst hq; simp [updV, upd2, shO, va_rf]
    · simp [updV, upd2, hq]
  · cases hg
end ALLOC
end
section
/-! ===== words: classes, methods, links ===== -/
theorem ck_Book : CK 0 (R_Book, T_Book, 7) := ⟨rfl, rfl, iw_Book, tyok_Book, nm_Book⟩
theorem ck_Builder : CK 1 (R_Builder, T_Builder, 11) := ⟨rfl, rfl, iw_Builder, tyok_Builder, nm_Builder⟩
theorem ck_Cutter : CK 2 (R_Cutter, T_Cutter, 10) := ⟨rfl, rfl, iw_Cutter, tyok_Cutter, nm_Cutter⟩
theorem ck_Filler : CK 3 (R_Filler, T_Filler, 12) := ⟨rfl, rfl, iw_Filler, tyok_Filler, nm_Filler⟩
theorem ck_Form : CK 4 (R_Form, T_Form, 7) := ⟨rfl, rfl, iw_Form, tyok_Form, nm_Form⟩
theorem ck_Meaning : CK 5 (R_Meaning, T_Meaning, 7) := ⟨rfl, rfl, iw_Meaning, tyok_Meaning, nm_Meaning⟩
theorem ck_Measure : CK 6 (R_Measure, T_Measure, 3) := ⟨rfl, rfl, iw_Measure, tyok_Measure, nm_Measure⟩
theorem ck_Shape : CK 7 (R_Shape, T_Shape, 1) := ⟨rfl, rfl, iw_Shape, tyok_Shape, nm_Shape⟩
theorem ck_Syntax : CK 8 (R_Syntax, T_Syntax, 5) := ⟨rfl, rfl, iw_Syntax, tyok_Syntax, nm_Syntax⟩
theorem ck_Table : CK 9 (R_Table, T_Table, 5) := ⟨rfl, rfl, iw_Table, tyok_Table, nm_Table⟩
theorem ck_Tokens : CK 10 (R_Tokens, T_Tokens, 8) := ⟨rfl, rfl, iw_Tokens, tyok_Tokens, nm_Tokens⟩
theorem ck_Q : CK 11 (R_Q, T_Q, 17) := ⟨rfl, rfl, iw_Q, tyok_Q, nm_Q⟩
theorem ck_Mo : CK 12 (R_Mo, T_Mo, 80) := ⟨rfl, rfl, iw_Mo, tyok_Mo, nm_Mo⟩
def m_Q_init : MT := (⟨"QuarterBoards", "<init>", "()V"⟩, prog_1_method_1_code, 2, none)
def m_Obj_init : MT := (⟨"java/lang/Object", "<init>", "()V"⟩, object_method_1_code, 1, none)
def m_Tokens_init : MT := (⟨"QuarterBoards$Tokens", "<init>", "()V"⟩, prog_12_method_1_code, 6, none)
def m_Str_charAt : MT := (⟨"java/lang/String", "charAt", "(I)C"⟩, prog_18_method_56_code, 2, some .char)
def m_Str_isLatin1 : MT := (⟨"java/lang/String", "isLatin1", "()Z"⟩, prog_18_method_154_code, 1, some .boolean)
def m_Lat_charAt : MT := (⟨"java/lang/StringLatin1", "charAt", "([BI)C"⟩, prog_19_method_2_code, 2, some .char)
def m_Str_checkIndex : MT := (⟨"java/lang/String", "checkIndex", "(II)V"⟩, prog_18_method_155_code, 2, none)
def m_Pre_checkIndex : MT := (⟨"jdk/internal/util/Preconditions", "checkIndex", "(IILjava/util/function/BiFunction;)I"⟩, prog_22_method_11_code, 3, some .int)
def m_U16_charAt : MT := (⟨"java/lang/StringUTF16", "charAt", "([BI)C"⟩, prog_20_method_83_code, 2, some .char)
def m_U16_checkIndex : MT := (⟨"java/lang/StringUTF16", "checkIndex", "(I[B)V"⟩, prog_20_method_91_code, 2, none)
def m_U16_length : MT := (⟨"java/lang/StringUTF16", "length", "([B)I"⟩, prog_20_method_6_code, 1, some .int)
def m_U16_getChar : MT := (⟨"java/lang/StringUTF16", "getChar", "([BI)C"⟩, prog_20_method_5_code, 2, some .char)
def m_Tokens_withLetter : MT := (⟨"QuarterBoards$Tokens", "withLetter", "(JI)J"⟩, prog_12_method_11_code, 3, some .long)
def m_Syntax_init : MT := (⟨"QuarterBoards$Syntax", "<init>", "()V"⟩, prog_10_method_1_code, 1, none)
def m_Meaning_init : MT := (⟨"QuarterBoards$Meaning", "<init>", "()V"⟩, prog_7_method_1_code, 1, none)
def m_Builder_init : MT := (⟨"QuarterBoards$Builder", "<init>", "(LQuarterBoards$Tokens;)V"⟩, prog_3_method_1_code, 3, none)
def m_Shape_init : MT := (⟨"QuarterBoards$Shape", "<init>", "()V"⟩, prog_9_method_1_code, 1, none)
def m_Measure_init : MT := (⟨"QuarterBoards$Measure", "<init>", "()V"⟩, prog_8_method_1_code, 1, none)
def m_Filler_init : MT := (⟨"QuarterBoards$Filler", "<init>", "([LQuarterBoards$Form;)V"⟩, prog_5_method_1_code, 2, none)
def m_Cutter_init : MT := (⟨"QuarterBoards$Cutter", "<init>", "()V"⟩, prog_4_method_1_code, 1, none)
def m_Form_init : MT := (⟨"QuarterBoards$Form", "<init>", "()V"⟩, prog_6_method_1_code, 2, none)
def m_Table_init : MT := (⟨"QuarterBoards$Table", "<init>", "()V"⟩, prog_11_method_1_code, 2, none)
def m_Book_init : MT := (⟨"QuarterBoards$Book", "<init>", "()V"⟩, prog_2_method_1_code, 1, none)
def m_Q_feed : MT := (⟨"QuarterBoards", "feed", "(IIIII)I"⟩, prog_1_method_2_code, 6, some .int)
def m_Q_appendBytes : MT := (⟨"QuarterBoards", "appendBytes", "(I)V"⟩, prog_1_method_34_code, 3, none)
def m_Q_back : MT := (⟨"QuarterBoards", "back", "(I)I"⟩, prog_1_method_3_code, 2, some .int)
def m_Q_read : MT := (⟨"QuarterBoards", "read", "()I"⟩, prog_1_method_4_code, 1, some .int)
def m_Tokens_scan : MT := (⟨"QuarterBoards$Tokens", "scan", "([BI)V"⟩, prog_12_method_2_code, 6, none)
def m_Tokens_byteAt : MT := (⟨"QuarterBoards$Tokens", "byteAt", "([BII)I"⟩, prog_12_method_12_code, 3, some .int)
def m_Tokens_isBlank : MT := (⟨"QuarterBoards$Tokens", "isBlank", "(I)Z"⟩, prog_12_method_13_code, 1, some .boolean)
def m_Tokens_isLetter : MT := (⟨"QuarterBoards$Tokens", "isLetter", "(I)Z"⟩, prog_12_method_14_code, 1, some .boolean)
def m_Tokens_scanLetters : MT := (⟨"QuarterBoards$Tokens", "scanLetters", "([BII)I"⟩, prog_12_method_3_code, 7, some .int)
def m_Tokens_kindOfWord : MT := (⟨"QuarterBoards$Tokens", "kindOfWord", "(J)I"⟩, prog_12_method_5_code, 4, some .int)
def m_Tokens_add : MT := (⟨"QuarterBoards$Tokens", "add", "(IIJ)V"⟩, prog_12_method_6_code, 5, none)
def m_Tokens_isDigit : MT := (⟨"QuarterBoards$Tokens", "isDigit", "(I)Z"⟩, prog_12_method_15_code, 1, some .boolean)
def m_Tokens_scanDigits : MT := (⟨"QuarterBoards$Tokens", "scanDigits", "([BII)I"⟩, prog_12_method_4_code, 6, some .int)
def m_Str_indexOf_1 : MT := (⟨"java/lang/String", "indexOf", "(I)I"⟩, prog_18_method_79_code, 2, some .int)
def m_Str_indexOf_2 : MT := (⟨"java/lang/String", "indexOf", "(II)I"⟩, prog_18_method_80_code, 3, some .int)
def m_Str_length : MT := (⟨"java/lang/String", "length", "()I"⟩, prog_18_method_54_code, 1, some .int)
def m_Str_coder : MT := (⟨"java/lang/String", "coder", "()B"⟩, prog_18_method_152_code, 1, some .byte)
def m_Lat_indexOf : MT := (⟨"java/lang/StringLatin1", "indexOf", "([BIII)I"⟩, prog_19_method_22_code, 4, some .int)
def m_Lat_canEncode : MT := (⟨"java/lang/StringLatin1", "canEncode", "(I)Z"⟩, prog_19_method_4_code, 1, some .boolean)
def m_Math_max : MT := (⟨"java/lang/Math", "max", "(II)I"⟩, prog_17_method_65_code, 2, some .int)
def m_Math_min : MT := (⟨"java/lang/Math", "min", "(II)I"⟩, prog_17_method_69_code, 2, some .int)
def m_Lat_indexOfChar : MT := (⟨"java/lang/StringLatin1", "indexOfChar", "([BIII)I"⟩, prog_19_method_23_code, 6, some .int)
def m_U16_indexOf : MT := (⟨"java/lang/StringUTF16", "indexOf", "([BIII)I"⟩, prog_20_method_40_code, 4, some .int)
def m_U16_indexOfChar : MT := (⟨"java/lang/StringUTF16", "indexOfChar", "([BIII)I"⟩, prog_20_method_47_code, 4, some .int)
def m_U16_checkBoundsBeginEnd : MT := (⟨"java/lang/StringUTF16", "checkBoundsBeginEnd", "(II[B)V"⟩, prog_20_method_93_code, 3, none)
def m_Str_checkBoundsBeginEnd : MT := (⟨"java/lang/String", "checkBoundsBeginEnd", "(III)V"⟩, prog_18_method_158_code, 3, none)
def m_Pre_checkFromToIndex : MT := (⟨"jdk/internal/util/Preconditions", "checkFromToIndex", "(IIILjava/util/function/BiFunction;)I"⟩, prog_22_method_12_code, 4, some .int)
def m_U16_indexOfCharUnsafe : MT := (⟨"java/lang/StringUTF16", "indexOfCharUnsafe", "([BIII)I"⟩, prog_20_method_48_code, 5, some .int)
def m_U16_indexOfSupplementary : MT := (⟨"java/lang/StringUTF16", "indexOfSupplementary", "([BIII)I"⟩, prog_20_method_49_code, 7, some .int)
def m_Chr_isValidCodePoint : MT := (⟨"java/lang/Character", "isValidCodePoint", "(I)Z"⟩, prog_15_method_11_code, 2, some .boolean)
def m_Chr_highSurrogate : MT := (⟨"java/lang/Character", "highSurrogate", "(I)C"⟩, prog_15_method_28_code, 1, some .char)
def m_Chr_lowSurrogate : MT := (⟨"java/lang/Character", "lowSurrogate", "(I)C"⟩, prog_15_method_29_code, 1, some .char)
def m_Syntax_check : MT := (⟨"QuarterBoards$Syntax", "check", "(LQuarterBoards$Tokens;)V"⟩, prog_10_method_2_code, 3, none)
def m_Tokens_kindAt : MT := (⟨"QuarterBoards$Tokens", "kindAt", "(I)I"⟩, prog_12_method_7_code, 2, some .int)
def m_Syntax_next : MT := (⟨"QuarterBoards$Syntax", "next", "(I)I"⟩, prog_10_method_4_code, 2, some .int)
def m_Syntax_behindTelling : MT := (⟨"QuarterBoards$Syntax", "behindTelling", "(I)I"⟩, prog_10_method_5_code, 2, some .int)
def m_Syntax_inPart : MT := (⟨"QuarterBoards$Syntax", "inPart", "(I)I"⟩, prog_10_method_6_code, 2, some .int)
def m_Syntax_behindShiftNumber : MT := (⟨"QuarterBoards$Syntax", "behindShiftNumber", "(I)I"⟩, prog_10_method_7_code, 2, some .int)
def m_Syntax_behindUnitNumber : MT := (⟨"QuarterBoards$Syntax", "behindUnitNumber", "(I)I"⟩, prog_10_method_8_code, 2, some .int)
def m_Syntax_behindUnit : MT := (⟨"QuarterBoards$Syntax", "behindUnit", "(I)I"⟩, prog_10_method_9_code, 2, some .int)
def m_Tokens_blame : MT := (⟨"QuarterBoards$Tokens", "blame", "(II)V"⟩, prog_12_method_10_code, 3, none)
def m_Tokens_placeAt : MT := (⟨"QuarterBoards$Tokens", "placeAt", "(I)I"⟩, prog_12_method_8_code, 2, some .int)
def m_Syntax_lacksRoom : MT := (⟨"QuarterBoards$Syntax", "lacksRoom", "()Z"⟩, prog_10_method_3_code, 1, some .boolean)
def m_Meaning_check : MT := (⟨"QuarterBoards$Meaning", "check", "(LQuarterBoards$Tokens;)V"⟩, prog_7_method_2_code, 4, none)
def m_Meaning_faultAt : MT := (⟨"QuarterBoards$Meaning", "faultAt", "(LQuarterBoards$Tokens;I)I"⟩, prog_7_method_3_code, 4, some .int)
def m_Meaning_isTelling : MT := (⟨"QuarterBoards$Meaning", "isTelling", "(I)Z"⟩, prog_7_method_4_code, 1, some .boolean)
def m_Tokens_valueAt : MT := (⟨"QuarterBoards$Tokens", "valueAt", "(I)J"⟩, prog_12_method_9_code, 2, some .long)
def m_Meaning_openNameFault : MT := (⟨"QuarterBoards$Meaning", "openNameFault", "(J)I"⟩, prog_7_method_5_code, 3, some .int)
def m_Meaning_isTold : MT := (⟨"QuarterBoards$Meaning", "isTold", "(J)Z"⟩, prog_7_method_8_code, 4, some .boolean)
def m_Meaning_usedNameFault : MT := (⟨"QuarterBoards$Meaning", "usedNameFault", "(J)I"⟩, prog_7_method_6_code, 3, some .int)
def m_Meaning_numberFault : MT := (⟨"QuarterBoards$Meaning", "numberFault", "(I)I"⟩, prog_7_method_9_code, 3, some .int)
def m_Meaning_leastNumber : MT := (⟨"QuarterBoards$Meaning", "leastNumber", "(I)I"⟩, prog_7_method_10_code, 2, some .int)
def m_Meaning_mostNumber : MT := (⟨"QuarterBoards$Meaning", "mostNumber", "(I)I"⟩, prog_7_method_11_code, 2, some .int)
def m_Meaning_closeName : MT := (⟨"QuarterBoards$Meaning", "closeName", "()V"⟩, prog_7_method_7_code, 1, none)
def m_Builder_build : MT := (⟨"QuarterBoards$Builder", "build", "()V"⟩, prog_3_method_2_code, 3, none)
def m_Builder_sumUp : MT := (⟨"QuarterBoards$Builder", "sumUp", "(I)V"⟩, prog_3_method_3_code, 4, none)
def m_Builder_makePart : MT := (⟨"QuarterBoards$Builder", "makePart", "(I)V"⟩, prog_3_method_5_code, 4, none)
def m_Builder_isWord : MT := (⟨"QuarterBoards$Builder", "isWord", "(I)Z"⟩, prog_3_method_6_code, 1, some .boolean)
def m_Builder_openWord : MT := (⟨"QuarterBoards$Builder", "openWord", "()V"⟩, prog_3_method_7_code, 1, none)
def m_Builder_behindNumber : MT := (⟨"QuarterBoards$Builder", "behindNumber", "(I)I"⟩, prog_3_method_8_code, 2, some .int)
def m_Builder_makeUnit : MT := (⟨"QuarterBoards$Builder", "makeUnit", "(I)V"⟩, prog_3_method_11_code, 4, none)
def m_Shape_copy : MT := (⟨"QuarterBoards$Shape", "copy", "(LQuarterBoards$Shape;)V"⟩, prog_9_method_3_code, 3, none)
def m_Builder_copyNamed : MT := (⟨"QuarterBoards$Builder", "copyNamed", "(LQuarterBoards$Shape;J)V"⟩, prog_3_method_12_code, 5, none)
def m_Shape_clear : MT := (⟨"QuarterBoards$Shape", "clear", "()V"⟩, prog_9_method_2_code, 2, none)
def m_Builder_makeCells : MT := (⟨"QuarterBoards$Builder", "makeCells", "(LQuarterBoards$Shape;I)V"⟩, prog_3_method_13_code, 7, none)
def m_Builder_numberAt : MT := (⟨"QuarterBoards$Builder", "numberAt", "(I)I"⟩, prog_3_method_9_code, 2, some .int)
def m_Shape_addCell : MT := (⟨"QuarterBoards$Shape", "addCell", "(III)V"⟩, prog_9_method_7_code, 4, none)
def m_Builder_addBox : MT := (⟨"QuarterBoards$Builder", "addBox", "(LQuarterBoards$Shape;IIII)V"⟩, prog_3_method_14_code, 7, none)
def m_Builder_doWord : MT := (⟨"QuarterBoards$Builder", "doWord", "(ILQuarterBoards$Shape;)V"⟩, prog_3_method_10_code, 6, none)
def m_Shape_becomeTurned : MT := (⟨"QuarterBoards$Shape", "becomeTurned", "(LQuarterBoards$Shape;)V"⟩, prog_9_method_22_code, 5, none)
def m_Shape_cell : MT := (⟨"QuarterBoards$Shape", "cell", "(II)I"⟩, prog_9_method_6_code, 3, some .int)
def m_Shape_becomeFlipped : MT := (⟨"QuarterBoards$Shape", "becomeFlipped", "(LQuarterBoards$Shape;)V"⟩, prog_9_method_23_code, 6, none)
def m_Shape_moveToBase : MT := (⟨"QuarterBoards$Shape", "moveToBase", "()V"⟩, prog_9_method_25_code, 4, none)
def m_Shape_top : MT := (⟨"QuarterBoards$Shape", "top", "()I"⟩, prog_9_method_15_code, 2, some .int)
def m_Shape_columns : MT := (⟨"QuarterBoards$Shape", "columns", "()I"⟩, prog_9_method_20_code, 3, some .int)
def m_Shape_leftmost : MT := (⟨"QuarterBoards$Shape", "leftmost", "(I)I"⟩, prog_9_method_18_code, 2, some .int)
def m_Shape_slide : MT := (⟨"QuarterBoards$Shape", "slide", "(II)I"⟩, prog_9_method_26_code, 2, some .int)
def m_Shape_goesOff : MT := (⟨"QuarterBoards$Shape", "goesOff", "(II)Z"⟩, prog_9_method_21_code, 3, some .boolean)
def m_Shape_isNothing : MT := (⟨"QuarterBoards$Shape", "isNothing", "()Z"⟩, prog_9_method_12_code, 2, some .boolean)
def m_Shape_left : MT := (⟨"QuarterBoards$Shape", "left", "()I"⟩, prog_9_method_17_code, 1, some .int)
def m_Shape_right : MT := (⟨"QuarterBoards$Shape", "right", "()I"⟩, prog_9_method_19_code, 3, some .int)
def m_Shape_bottom : MT := (⟨"QuarterBoards$Shape", "bottom", "()I"⟩, prog_9_method_16_code, 2, some .int)
def m_Shape_becomeShifted : MT := (⟨"QuarterBoards$Shape", "becomeShifted", "(LQuarterBoards$Shape;II)V"⟩, prog_9_method_24_code, 6, none)
def m_Builder_combine : MT := (⟨"QuarterBoards$Builder", "combine", "(LQuarterBoards$Shape;ILQuarterBoards$Shape;)V"⟩, prog_3_method_4_code, 3, none)
def m_Shape_join : MT := (⟨"QuarterBoards$Shape", "join", "(LQuarterBoards$Shape;)V"⟩, prog_9_method_8_code, 3, none)
def m_Shape_takeAway : MT := (⟨"QuarterBoards$Shape", "takeAway", "(LQuarterBoards$Shape;)V"⟩, prog_9_method_9_code, 3, none)
def m_Shape_keepCommon : MT := (⟨"QuarterBoards$Shape", "keepCommon", "(LQuarterBoards$Shape;)V"⟩, prog_9_method_10_code, 3, none)
def m_Q_takeOver : MT := (⟨"QuarterBoards", "takeOver", "()V"⟩, prog_1_method_35_code, 2, none)
def m_Form_tell : MT := (⟨"QuarterBoards$Form", "tell", "(LQuarterBoards$Shape;)V"⟩, prog_6_method_2_code, 3, none)
def m_Shape_countQuarters : MT := (⟨"QuarterBoards$Shape", "countQuarters", "()I"⟩, prog_9_method_13_code, 3, some .int)
def m_Integer_bitCount : MT := (⟨"java/lang/Integer", "bitCount", "(I)I"⟩, prog_16_method_49_code, 1, some .int)
def m_Form_makeImage : MT := (⟨"QuarterBoards$Form", "makeImage", "(I)V"⟩, prog_6_method_3_code, 4, none)
def m_Shape_lowestQuarter : MT := (⟨"QuarterBoards$Shape", "lowestQuarter", "()I"⟩, prog_9_method_14_code, 2, some .int)
def m_Shape_isSame : MT := (⟨"QuarterBoards$Shape", "isSame", "(LQuarterBoards$Shape;)Z"⟩, prog_9_method_11_code, 3, some .boolean)
def m_Table_empty : MT := (⟨"QuarterBoards$Table", "empty", "()V"⟩, prog_11_method_2_code, 2, none)
def m_Table_take : MT := (⟨"QuarterBoards$Table", "take", "(I)V"⟩, prog_11_method_5_code, 2, none)
def m_Book_empty : MT := (⟨"QuarterBoards$Book", "empty", "()V"⟩, prog_2_method_2_code, 1, none)
def m_Filler_forget : MT := (⟨"QuarterBoards$Filler", "forget", "()V"⟩, prog_5_method_2_code, 1, none)
def m_Filler_forgetSets : MT := (⟨"QuarterBoards$Filler", "forgetSets", "()V"⟩, prog_5_method_3_code, 2, none)
def m_Cutter_forget : MT := (⟨"QuarterBoards$Cutter", "forget", "()V"⟩, prog_4_method_2_code, 1, none)
def m_Q_place : MT := (⟨"QuarterBoards", "place", "()I"⟩, prog_1_method_5_code, 1, some .int)
def m_Q_area : MT := (⟨"QuarterBoards", "area", "(ZI)I"⟩, prog_1_method_6_code, 4, some .int)
def m_Q_formOf : MT := (⟨"QuarterBoards", "formOf", "(ZI)LQuarterBoards$Form;"⟩, prog_1_method_36_code, 3, some (.object "QuarterBoards$Form"))
def m_Q_has : MT := (⟨"QuarterBoards", "has", "(ZII)I"⟩, prog_1_method_7_code, 5, some .int)
def m_Q_isQuarter : MT := (⟨"QuarterBoards", "isQuarter", "(I)Z"⟩, prog_1_method_38_code, 1, some .boolean)
def m_Shape_holds : MT := (⟨"QuarterBoards$Shape", "holds", "(I)Z"⟩, prog_9_method_4_code, 2, some .boolean)
def m_Q_pieces : MT := (⟨"QuarterBoards", "pieces", "(ZI)I"⟩, prog_1_method_8_code, 4, some .int)
def m_Measure_countPieces : MT := (⟨"QuarterBoards$Measure", "countPieces", "(LQuarterBoards$Shape;)I"⟩, prog_8_method_2_code, 4, some .int)
def m_Measure_takePiece : MT := (⟨"QuarterBoards$Measure", "takePiece", "(I)V"⟩, prog_8_method_4_code, 5, none)
def m_Measure_takeOpen : MT := (⟨"QuarterBoards$Measure", "takeOpen", "(I)V"⟩, prog_8_method_5_code, 2, none)
def m_Shape_drop : MT := (⟨"QuarterBoards$Shape", "drop", "(I)V"⟩, prog_9_method_5_code, 2, none)
def m_Measure_across : MT := (⟨"QuarterBoards$Measure", "across", "(I)I"⟩, prog_8_method_6_code, 3, some .int)
def m_Q_corners : MT := (⟨"QuarterBoards", "corners", "(ZIZ)I"⟩, prog_1_method_9_code, 5, some .int)
def m_Measure_countCorners : MT := (⟨"QuarterBoards$Measure", "countCorners", "(LQuarterBoards$Shape;Z)I"⟩, prog_8_method_7_code, 6, some .int)
def m_Measure_ringAt : MT := (⟨"QuarterBoards$Measure", "ringAt", "(LQuarterBoards$Shape;II)I"⟩, prog_8_method_8_code, 7, some .int)
def m_Measure_countAngles : MT := (⟨"QuarterBoards$Measure", "countAngles", "(IIZ)I"⟩, prog_8_method_9_code, 7, some .int)
def m_Measure_rowLength : MT := (⟨"QuarterBoards$Measure", "rowLength", "(III)I"⟩, prog_8_method_10_code, 5, some .int)
def m_Q_bulges : MT := (⟨"QuarterBoards", "bulges", "(ZI)I"⟩, prog_1_method_10_code, 4, some .int)
def m_Measure_isOnePiece : MT := (⟨"QuarterBoards$Measure", "isOnePiece", "(LQuarterBoards$Shape;)Z"⟩, prog_8_method_3_code, 3, some .boolean)
def m_Q_images : MT := (⟨"QuarterBoards", "images", "(ZI)I"⟩, prog_1_method_11_code, 4, some .int)
def m_Form_countDifferent : MT := (⟨"QuarterBoards$Form", "countDifferent", "()I"⟩, prog_6_method_5_code, 3, some .int)
def m_Q_least : MT := (⟨"QuarterBoards", "least", "(ZII)I"⟩, prog_1_method_12_code, 5, some .int)
def m_Q_isImage : MT := (⟨"QuarterBoards", "isImage", "(I)Z"⟩, prog_1_method_39_code, 1, some .boolean)
def m_Q_alike : MT := (⟨"QuarterBoards", "alike", "(II)I"⟩, prog_1_method_13_code, 5, some .int)
def m_Form_base : MT := (⟨"QuarterBoards$Form", "base", "()LQuarterBoards$Shape;"⟩, prog_6_method_4_code, 1, some (.object "QuarterBoards$Shape"))
def m_Form_imageThatIs : MT := (⟨"QuarterBoards$Form", "imageThatIs", "(LQuarterBoards$Shape;)I"⟩, prog_6_method_6_code, 3, some .int)
def m_Q_shows : MT := (⟨"QuarterBoards", "shows", "()I"⟩, prog_1_method_14_code, 2, some .int)
def m_Table_unite : MT := (⟨"QuarterBoards$Table", "unite", "(LQuarterBoards$Shape;)V"⟩, prog_11_method_10_code, 3, none)
def m_Q_fill : MT := (⟨"QuarterBoards", "fill", "(II)I"⟩, prog_1_method_15_code, 4, some .int)
def m_Q_isSet : MT := (⟨"QuarterBoards", "isSet", "(I)Z"⟩, prog_1_method_37_code, 2, some .boolean)
def m_Filler_countAll : MT := (⟨"QuarterBoards$Filler", "countAll", "(LQuarterBoards$Form;I)I"⟩, prog_5_method_4_code, 3, some .int)
def m_Filler_look : MT := (⟨"QuarterBoards$Filler", "look", "(LQuarterBoards$Form;IZ)V"⟩, prog_5_method_11_code, 4, none)
def m_Filler_areaOf : MT := (⟨"QuarterBoards$Filler", "areaOf", "(I)I"⟩, prog_5_method_12_code, 4, some .int)
def m_Filler_search : MT := (⟨"QuarterBoards$Filler", "search", "(II)V"⟩, prog_5_method_14_code, 5, none)
def m_Filler_countWay : MT := (⟨"QuarterBoards$Filler", "countWay", "()V"⟩, prog_5_method_15_code, 1, none)
def m_Filler_isOver : MT := (⟨"QuarterBoards$Filler", "isOver", "()Z"⟩, prog_5_method_13_code, 1, some .boolean)
def m_Filler_tryBoard : MT := (⟨"QuarterBoards$Filler", "tryBoard", "(IIII)V"⟩, prog_5_method_16_code, 10, none)
def m_Form_staysOn : MT := (⟨"QuarterBoards$Form", "staysOn", "(III)Z"⟩, prog_6_method_7_code, 4, some .boolean)
def m_Filler_fits : MT := (⟨"QuarterBoards$Filler", "fits", "(LQuarterBoards$Shape;III)Z"⟩, prog_5_method_17_code, 6, some .boolean)
def m_Filler_layCode : MT := (⟨"QuarterBoards$Filler", "layCode", "(III)I"⟩, prog_5_method_19_code, 3, some .int)
def m_Filler_change : MT := (⟨"QuarterBoards$Filler", "change", "(LQuarterBoards$Shape;III)V"⟩, prog_5_method_18_code, 6, none)
def m_Q_filled : MT := (⟨"QuarterBoards", "filled", "(II)I"⟩, prog_1_method_16_code, 3, some .int)
def m_Filler_tellRemembered : MT := (⟨"QuarterBoards$Filler", "tellRemembered", "(II)I"⟩, prog_5_method_5_code, 3, some .int)
def m_Filler_tellOf : MT := (⟨"QuarterBoards$Filler", "tellOf", "(II)I"⟩, prog_5_method_20_code, 2, some .int)
def m_Q_steps : MT := (⟨"QuarterBoards", "steps", "()I"⟩, prog_1_method_17_code, 1, some .int)
def m_Q_sets : MT := (⟨"QuarterBoards", "sets", "(I)I"⟩, prog_1_method_18_code, 3, some .int)
def m_Filler_countSets : MT := (⟨"QuarterBoards$Filler", "countSets", "(ILQuarterBoards$Form;I)I"⟩, prog_5_method_6_code, 4, some .int)
def m_Filler_lookForSets : MT := (⟨"QuarterBoards$Filler", "lookForSets", "([ILQuarterBoards$Form;I)I"⟩, prog_5_method_7_code, 6, some .int)
def m_Q_set : MT := (⟨"QuarterBoards", "set", "(II)I"⟩, prog_1_method_19_code, 5, some .int)
def m_Filler_setAt : MT := (⟨"QuarterBoards$Filler", "setAt", "(II)I"⟩, prog_5_method_9_code, 5, some .int)
def m_Filler_doesFill : MT := (⟨"QuarterBoards$Filler", "doesFill", "(II)Z"⟩, prog_5_method_8_code, 3, some .boolean)
def m_Q_needed : MT := (⟨"QuarterBoards", "needed", "(I)I"⟩, prog_1_method_20_code, 4, some .int)
def m_Filler_inAllSets : MT := (⟨"QuarterBoards$Filler", "inAllSets", "(I)I"⟩, prog_5_method_10_code, 4, some .int)
def m_Q_cut : MT := (⟨"QuarterBoards", "cut", "(II)I"⟩, prog_1_method_21_code, 5, some .int)
def m_Cutter_look : MT := (⟨"QuarterBoards$Cutter", "look", "(LQuarterBoards$Form;LQuarterBoards$Form;LQuarterBoards$Measure;)I"⟩, prog_4_method_3_code, 6, some .int)
def m_Cutter_remember : MT := (⟨"QuarterBoards$Cutter", "remember", "(IIII)I"⟩, prog_4_method_7_code, 5, some .int)
def m_Cutter_lookWith : MT := (⟨"QuarterBoards$Cutter", "lookWith", "(LQuarterBoards$Shape;ILQuarterBoards$Measure;)Z"⟩, prog_4_method_4_code, 6, some .boolean)
def m_Cutter_cuts : MT := (⟨"QuarterBoards$Cutter", "cuts", "(LQuarterBoards$Shape;IILQuarterBoards$Measure;)Z"⟩, prog_4_method_5_code, 5, some .boolean)
def m_Cutter_haveLikeSides : MT := (⟨"QuarterBoards$Cutter", "haveLikeSides", "()Z"⟩, prog_4_method_6_code, 5, some .boolean)
def m_Q_part : MT := (⟨"QuarterBoards", "part", "(I)I"⟩, prog_1_method_22_code, 2, some .int)
def m_Cutter_partOf : MT := (⟨"QuarterBoards$Cutter", "partOf", "(I)I"⟩, prog_4_method_8_code, 2, some .int)
def m_Q_laid : MT := (⟨"QuarterBoards", "laid", "(I)I"⟩, prog_1_method_23_code, 2, some .int)
def m_Cutter_tellLaid : MT := (⟨"QuarterBoards$Cutter", "tellLaid", "(I)I"⟩, prog_4_method_9_code, 2, some .int)
def m_Q_lay : MT := (⟨"QuarterBoards", "lay", "(IIII)I"⟩, prog_1_method_24_code, 6, some .int)
def m_Table_holdsBoard : MT := (⟨"QuarterBoards$Table", "holdsBoard", "(I)Z"⟩, prog_11_method_3_code, 2, some .boolean)
def m_Table_put : MT := (⟨"QuarterBoards$Table", "put", "(ILQuarterBoards$Form;III)V"⟩, prog_11_method_4_code, 6, none)
def m_Table_countLays : MT := (⟨"QuarterBoards$Table", "countLays", "()I"⟩, prog_11_method_7_code, 1, some .int)
def m_Table_boardsLaid : MT := (⟨"QuarterBoards$Table", "boardsLaid", "()I"⟩, prog_11_method_8_code, 3, some .int)
def m_Q_lift : MT := (⟨"QuarterBoards", "lift", "(I)Z"⟩, prog_1_method_25_code, 2, some .boolean)
def m_Q_covers : MT := (⟨"QuarterBoards", "covers", "(I)I"⟩, prog_1_method_26_code, 2, some .int)
def m_Table_boardOn : MT := (⟨"QuarterBoards$Table", "boardOn", "(I)I"⟩, prog_11_method_9_code, 3, some .int)
def m_Q_clashes : MT := (⟨"QuarterBoards", "clashes", "()I"⟩, prog_1_method_27_code, 1, some .int)
def m_Table_countClashes : MT := (⟨"QuarterBoards$Table", "countClashes", "()I"⟩, prog_11_method_11_code, 2, some .int)
def m_Q_claim : MT := (⟨"QuarterBoards", "claim", "(III)I"⟩, prog_1_method_28_code, 6, some .int)
def m_Book_isFull : MT := (⟨"QuarterBoards$Book", "isFull", "()Z"⟩, prog_2_method_3_code, 1, some .boolean)
def m_Q_isPlayer : MT := (⟨"QuarterBoards", "isPlayer", "(I)Z"⟩, prog_1_method_40_code, 1, some .boolean)
def m_Table_judge : MT := (⟨"QuarterBoards$Table", "judge", "(LQuarterBoards$Shape;I)I"⟩, prog_11_method_12_code, 4, some .int)
def m_Book_enterClaim : MT := (⟨"QuarterBoards$Book", "enterClaim", "(IIIILQuarterBoards$Table;)I"⟩, prog_2_method_5_code, 6, some .int)
def m_Table_copyCodes : MT := (⟨"QuarterBoards$Table", "copyCodes", "([I)V"⟩, prog_11_method_6_code, 2, none)
def m_Q_annul : MT := (⟨"QuarterBoards", "annul", "(I)I"⟩, prog_1_method_29_code, 2, some .int)
def m_Book_isClaim : MT := (⟨"QuarterBoards$Book", "isClaim", "(I)Z"⟩, prog_2_method_4_code, 2, some .boolean)
def m_Book_enterVoid : MT := (⟨"QuarterBoards$Book", "enterVoid", "(I)I"⟩, prog_2_method_6_code, 2, some .int)
def m_Q_verdict : MT := (⟨"QuarterBoards", "verdict", "(I)I"⟩, prog_1_method_30_code, 2, some .int)
def m_Q_first : MT := (⟨"QuarterBoards", "first", "(II)I"⟩, prog_1_method_31_code, 3, some .int)
def m_Book_isKnownRight : MT := (⟨"QuarterBoards$Book", "isKnownRight", "(II)Z"⟩, prog_2_method_7_code, 4, some .boolean)
def m_Book_firstSame : MT := (⟨"QuarterBoards$Book", "firstSame", "(II)I"⟩, prog_2_method_8_code, 4, some .int)
def m_Book_areSame : MT := (⟨"QuarterBoards$Book", "areSame", "(II)Z"⟩, prog_2_method_10_code, 4, some .boolean)
def m_Q_points : MT := (⟨"QuarterBoards", "points", "(II)I"⟩, prog_1_method_32_code, 3, some .int)
def m_Book_countPoints : MT := (⟨"QuarterBoards$Book", "countPoints", "(II)I"⟩, prog_2_method_9_code, 5, some .int)
def m_Q_count : MT := (⟨"QuarterBoards", "count", "(I)I"⟩, prog_1_method_33_code, 2, some .int)
def m_Mo_init : MT := (⟨"QuarterBoardsModel", "<init>", "()V"⟩, prog_14_method_2_code, 2, none)
def m_Mo_word : MT := (⟨"QuarterBoardsModel", "word", "(IIIIIII)J"⟩, prog_14_method_10_code, 7, some .long)
def m_Mo_more : MT := (⟨"QuarterBoardsModel", "more", "(JI)J"⟩, prog_14_method_9_code, 3, some .long)
def m_Mo_feed : MT := (⟨"QuarterBoardsModel", "feed", "(IIIII)I"⟩, prog_14_method_3_code, 6, some .int)
def m_Mo_put : MT := (⟨"QuarterBoardsModel", "put", "(I)V"⟩, prog_14_method_4_code, 3, none)
def m_Mo_back : MT := (⟨"QuarterBoardsModel", "back", "(I)I"⟩, prog_14_method_5_code, 2, some .int)
def m_Mo_read : MT := (⟨"QuarterBoardsModel", "read", "()I"⟩, prog_14_method_19_code, 2, some .int)
def m_Mo_cut_0 : MT := (⟨"QuarterBoardsModel", "cut", "()V"⟩, prog_14_method_12_code, 8, none)
def m_Mo_at : MT := (⟨"QuarterBoardsModel", "at", "(I)I"⟩, prog_14_method_6_code, 2, some .int)
def m_Mo_token : MT := (⟨"QuarterBoardsModel", "token", "(IIIJ)V"⟩, prog_14_method_11_code, 6, none)
def m_Mo_isLetter : MT := (⟨"QuarterBoardsModel", "isLetter", "(I)Z"⟩, prog_14_method_8_code, 1, some .boolean)
def m_Mo_isDigit : MT := (⟨"QuarterBoardsModel", "isDigit", "(I)Z"⟩, prog_14_method_7_code, 1, some .boolean)
def m_Mo_sign : MT := (⟨"QuarterBoardsModel", "sign", "(I)I"⟩, prog_14_method_13_code, 1, some .int)
def m_Mo_is : MT := (⟨"QuarterBoardsModel", "is", "(I)Z"⟩, prog_14_method_14_code, 2, some .boolean)
def m_Mo_tellThing : MT := (⟨"QuarterBoardsModel", "tellThing", "()V"⟩, prog_14_method_23_code, 4, none)
def m_Mo_fail : MT := (⟨"QuarterBoardsModel", "fail", "(I)V"⟩, prog_14_method_15_code, 2, none)
def m_Mo_next : MT := (⟨"QuarterBoardsModel", "next", "()V"⟩, prog_14_method_17_code, 1, none)
def m_Mo_must : MT := (⟨"QuarterBoardsModel", "must", "(I)V"⟩, prog_14_method_18_code, 2, none)
def m_Mo_wrong : MT := (⟨"QuarterBoardsModel", "wrong", "(II)V"⟩, prog_14_method_16_code, 4, none)
def m_Mo_expression : MT := (⟨"QuarterBoardsModel", "expression", "()V"⟩, prog_14_method_27_code, 7, none)
def m_Mo_waitsFor : MT := (⟨"QuarterBoardsModel", "waitsFor", "(IIII)V"⟩, prog_14_method_24_code, 5, none)
def m_Mo_signed : MT := (⟨"QuarterBoardsModel", "signed", "()I"⟩, prog_14_method_25_code, 2, some .int)
def m_Mo_number : MT := (⟨"QuarterBoardsModel", "number", "(II)I"⟩, prog_14_method_22_code, 5, some .int)
def m_Mo_unit : MT := (⟨"QuarterBoardsModel", "unit", "()V"⟩, prog_14_method_28_code, 7, none)
def m_Mo_emit : MT := (⟨"QuarterBoardsModel", "emit", "(IIIIII)V"⟩, prog_14_method_21_code, 7, none)
def m_Mo_comesOut : MT := (⟨"QuarterBoardsModel", "comesOut", "()V"⟩, prog_14_method_26_code, 2, none)
def m_Mo_work : MT := (⟨"QuarterBoardsModel", "work", "(I)V"⟩, prog_14_method_34_code, 8, none)
def m_Mo_lays : MT := (⟨"QuarterBoardsModel", "lays", "(II)V"⟩, prog_14_method_37_code, 9, none)
def m_Mo_pageOf : MT := (⟨"QuarterBoardsModel", "pageOf", "(I)I"⟩, prog_14_method_36_code, 2, some .int)
def m_Mo_copies : MT := (⟨"QuarterBoardsModel", "copies", "(II)V"⟩, prog_14_method_30_code, 4, none)
def m_Mo_clears : MT := (⟨"QuarterBoardsModel", "clears", "(I)V"⟩, prog_14_method_29_code, 3, none)
def m_Mo_turns : MT := (⟨"QuarterBoardsModel", "turns", "(IIZ)V"⟩, prog_14_method_31_code, 11, none)
def m_Mo_bases : MT := (⟨"QuarterBoardsModel", "bases", "(II)V"⟩, prog_14_method_33_code, 6, none)
def m_Mo_shifts : MT := (⟨"QuarterBoardsModel", "shifts", "(IIII)Z"⟩, prog_14_method_32_code, 9, some .boolean)
def m_Mo_comesWrong : MT := (⟨"QuarterBoardsModel", "comesWrong", "(II)V"⟩, prog_14_method_35_code, 3, none)
def m_Mo_areaOf : MT := (⟨"QuarterBoardsModel", "areaOf", "(I)I"⟩, prog_14_method_38_code, 4, some .int)
def m_Mo_restarts : MT := (⟨"QuarterBoardsModel", "restarts", "()V"⟩, prog_14_method_78_code, 2, none)
def m_Mo_place : MT := (⟨"QuarterBoardsModel", "place", "()I"⟩, prog_14_method_20_code, 1, some .int)
def m_Mo_area : MT := (⟨"QuarterBoardsModel", "area", "(ZI)I"⟩, prog_14_method_48_code, 4, some .int)
def m_Mo_shape : MT := (⟨"QuarterBoardsModel", "shape", "(ZI)I"⟩, prog_14_method_47_code, 3, some .int)
def m_Mo_has : MT := (⟨"QuarterBoardsModel", "has", "(ZII)I"⟩, prog_14_method_50_code, 5, some .int)
def m_Mo_isQuarter : MT := (⟨"QuarterBoardsModel", "isQuarter", "(I)Z"⟩, prog_14_method_49_code, 1, some .boolean)
def m_Mo_pieces : MT := (⟨"QuarterBoardsModel", "pieces", "(ZI)I"⟩, prog_14_method_51_code, 4, some .int)
def m_Mo_piecesOf : MT := (⟨"QuarterBoardsModel", "piecesOf", "(I)I"⟩, prog_14_method_43_code, 9, some .int)
def m_Mo_meets : MT := (⟨"QuarterBoardsModel", "meets", "(II)V"⟩, prog_14_method_42_code, 3, none)
def m_Mo_corners : MT := (⟨"QuarterBoardsModel", "corners", "(ZIZ)I"⟩, prog_14_method_52_code, 5, some .int)
def m_Mo_cornersOf : MT := (⟨"QuarterBoardsModel", "cornersOf", "(IZ)I"⟩, prog_14_method_46_code, 7, some .int)
def m_Mo_isIn : MT := (⟨"QuarterBoardsModel", "isIn", "(IIII)Z"⟩, prog_14_method_44_code, 5, some .boolean)
def m_Mo_cornersHere : MT := (⟨"QuarterBoardsModel", "cornersHere", "(IZ)I"⟩, prog_14_method_45_code, 7, some .int)
def m_Mo_bulges : MT := (⟨"QuarterBoardsModel", "bulges", "(ZI)I"⟩, prog_14_method_53_code, 4, some .int)
def m_Mo_images : MT := (⟨"QuarterBoardsModel", "images", "(ZI)I"⟩, prog_14_method_55_code, 6, some .int)
def m_Mo_leastSame : MT := (⟨"QuarterBoardsModel", "leastSame", "(II)I"⟩, prog_14_method_54_code, 4, some .int)
def m_Mo_imaged : MT := (⟨"QuarterBoardsModel", "imaged", "(III)V"⟩, prog_14_method_39_code, 5, none)
def m_Mo_isSame : MT := (⟨"QuarterBoardsModel", "isSame", "(II)Z"⟩, prog_14_method_40_code, 4, some .boolean)
def m_Mo_least : MT := (⟨"QuarterBoardsModel", "least", "(ZII)I"⟩, prog_14_method_56_code, 6, some .int)
def m_Mo_alike : MT := (⟨"QuarterBoardsModel", "alike", "(II)I"⟩, prog_14_method_57_code, 6, some .int)
def m_Mo_alikeBy : MT := (⟨"QuarterBoardsModel", "alikeBy", "(II)I"⟩, prog_14_method_41_code, 4, some .int)
def m_Mo_fill : MT := (⟨"QuarterBoardsModel", "fill", "(II)I"⟩, prog_14_method_67_code, 4, some .int)
def m_Mo_isOutlineThere : MT := (⟨"QuarterBoardsModel", "isOutlineThere", "(I)Z"⟩, prog_14_method_66_code, 2, some .boolean)
def m_Mo_isSet : MT := (⟨"QuarterBoardsModel", "isSet", "(I)Z"⟩, prog_14_method_65_code, 2, some .boolean)
def m_Mo_looks : MT := (⟨"QuarterBoardsModel", "looks", "(IIZ)V"⟩, prog_14_method_63_code, 13, none)
def m_Mo_readies : MT := (⟨"QuarterBoardsModel", "readies", "()V"⟩, prog_14_method_58_code, 5, none)
def m_Mo_leastLeft : MT := (⟨"QuarterBoardsModel", "leastLeft", "()I"⟩, prog_14_method_62_code, 2, some .int)
def m_Mo_marks : MT := (⟨"QuarterBoardsModel", "marks", "(IIZ)V"⟩, prog_14_method_61_code, 5, none)
def m_Mo_liesOn : MT := (⟨"QuarterBoardsModel", "liesOn", "(II)Z"⟩, prog_14_method_59_code, 10, some .boolean)
def m_Mo_isFree : MT := (⟨"QuarterBoardsModel", "isFree", "(II)Z"⟩, prog_14_method_60_code, 4, some .boolean)
def m_Mo_remembers : MT := (⟨"QuarterBoardsModel", "remembers", "(I)V"⟩, prog_14_method_64_code, 4, none)
def m_Mo_filled : MT := (⟨"QuarterBoardsModel", "filled", "(II)I"⟩, prog_14_method_68_code, 3, some .int)
def m_Mo_steps : MT := (⟨"QuarterBoardsModel", "steps", "()I"⟩, prog_14_method_69_code, 1, some .int)
def m_Mo_sets : MT := (⟨"QuarterBoardsModel", "sets", "(I)I"⟩, prog_14_method_71_code, 3, some .int)
def m_Mo_setsOf : MT := (⟨"QuarterBoardsModel", "setsOf", "(II)I"⟩, prog_14_method_70_code, 7, some .int)
def m_Mo_set : MT := (⟨"QuarterBoardsModel", "set", "(II)I"⟩, prog_14_method_72_code, 3, some .int)
def m_Mo_needed : MT := (⟨"QuarterBoardsModel", "needed", "(I)I"⟩, prog_14_method_73_code, 3, some .int)
def m_Mo_cut_2 : MT := (⟨"QuarterBoardsModel", "cut", "(II)I"⟩, prog_14_method_74_code, 8, some .int)
def m_Mo_parts : MT := (⟨"QuarterBoardsModel", "parts", "(II)Z"⟩, prog_14_method_75_code, 9, some .boolean)
def m_Mo_part : MT := (⟨"QuarterBoardsModel", "part", "(I)I"⟩, prog_14_method_76_code, 2, some .int)
def m_Mo_laid : MT := (⟨"QuarterBoardsModel", "laid", "(I)I"⟩, prog_14_method_77_code, 2, some .int)
def m_Mo_lay : MT := (⟨"QuarterBoardsModel", "lay", "(IIII)I"⟩, prog_14_method_80_code, 6, some .int)
def m_Mo_laysThere : MT := (⟨"QuarterBoardsModel", "laysThere", "()I"⟩, prog_14_method_79_code, 3, some .int)
def m_Mo_lift : MT := (⟨"QuarterBoardsModel", "lift", "(I)Z"⟩, prog_14_method_81_code, 3, some .boolean)
def m_Mo_covers : MT := (⟨"QuarterBoardsModel", "covers", "(I)I"⟩, prog_14_method_83_code, 3, some .int)
def m_Mo_clashes : MT := (⟨"QuarterBoardsModel", "clashes", "()I"⟩, prog_14_method_84_code, 3, some .int)
def m_Mo_layersAt : MT := (⟨"QuarterBoardsModel", "layersAt", "(I)I"⟩, prog_14_method_82_code, 4, some .int)
def m_Mo_shows : MT := (⟨"QuarterBoardsModel", "shows", "()I"⟩, prog_14_method_85_code, 2, some .int)
def m_Mo_claim : MT := (⟨"QuarterBoardsModel", "claim", "(III)I"⟩, prog_14_method_87_code, 5, some .int)
def m_Mo_judge : MT := (⟨"QuarterBoardsModel", "judge", "(II)I"⟩, prog_14_method_86_code, 5, some .int)
def m_Mo_annul : MT := (⟨"QuarterBoardsModel", "annul", "(I)I"⟩, prog_14_method_89_code, 2, some .int)
def m_Mo_isClaim : MT := (⟨"QuarterBoardsModel", "isClaim", "(I)Z"⟩, prog_14_method_88_code, 2, some .boolean)
def m_Mo_verdict : MT := (⟨"QuarterBoardsModel", "verdict", "(I)I"⟩, prog_14_method_90_code, 2, some .int)
def m_Mo_first : MT := (⟨"QuarterBoardsModel", "first", "(II)I"⟩, prog_14_method_94_code, 3, some .int)
def m_Mo_isRight : MT := (⟨"QuarterBoardsModel", "isRight", "(II)Z"⟩, prog_14_method_91_code, 4, some .boolean)
def m_Mo_firstOf : MT := (⟨"QuarterBoardsModel", "firstOf", "(II)I"⟩, prog_14_method_93_code, 4, some .int)
def m_Mo_isLike : MT := (⟨"QuarterBoardsModel", "isLike", "(II)Z"⟩, prog_14_method_92_code, 4, some .boolean)
def m_Mo_points : MT := (⟨"QuarterBoardsModel", "points", "(II)I"⟩, prog_14_method_95_code, 5, some .int)
def m_Mo_count : MT := (⟨"QuarterBoardsModel", "count", "(I)I"⟩, prog_14_method_96_code, 2, some .int)
theorem mn_Q_init : MN m_Q_init 0 := ⟨⟨gT_at sub_1 26 rfl rfl, gT_at sub_1 1 rfl rfl, by decide +kernel⟩, gT_at sub_1 25 rfl rfl, rfl, rfl⟩
theorem mn_Tokens_init : MN m_Tokens_init 0 := ⟨⟨gT_at sub_1 36 rfl rfl, gT_at sub_1 2 rfl rfl, by decide +kernel⟩, gT_at sub_1 35 rfl rfl, rfl, rfl⟩
theorem mv_Str_charAt : MV m_Str_charAt 1 := ⟨⟨gT_at sub_1 42 rfl rfl, gT_at sub_1 3 rfl rfl, by decide +kernel⟩, gT_at sub_1 40 rfl rfl, gT_at sub_1 41 rfl rfl⟩
theorem mv_Str_isLatin1 : MV m_Str_isLatin1 0 := ⟨⟨gT_at sub_1 46 rfl rfl, gT_at sub_1 3 rfl rfl, by decide +kernel⟩, gT_at sub_1 44 rfl rfl, gT_at sub_1 45 rfl rfl⟩
theorem ms_Lat_charAt : MS m_Lat_charAt 2 := ⟨⟨gT_at sub_1 51 rfl rfl, gT_at sub_1 4 rfl rfl, by decide +kernel⟩, gT_at sub_1 50 rfl rfl⟩
theorem ms_Str_checkIndex : MS m_Str_checkIndex 2 := ⟨⟨gT_at sub_1 54 rfl rfl, gT_at sub_1 3 rfl rfl, by decide +kernel⟩, gT_at sub_1 53 rfl rfl⟩
theorem ms_Pre_checkIndex : MS m_Pre_checkIndex 3 := ⟨⟨gT_at sub_1 59 rfl rfl, gT_at sub_1 5 rfl rfl, by decide +kernel⟩, gT_at sub_1 58 rfl rfl⟩
theorem ms_U16_charAt : MS m_U16_charAt 2 := ⟨⟨gT_at sub_1 62 rfl rfl, gT_at sub_1 6 rfl rfl, by decide +kernel⟩, gT_at sub_1 61 rfl rfl⟩
theorem ms_U16_checkIndex : MS m_U16_checkIndex 2 := ⟨⟨gT_at sub_1 65 rfl rfl, gT_at sub_1 6 rfl rfl, by decide +kernel⟩, gT_at sub_1 64 rfl rfl⟩
theorem ms_U16_length : MS m_U16_length 1 := ⟨⟨gT_at sub_1 68 rfl rfl, gT_at sub_1 6 rfl rfl, by decide +kernel⟩, gT_at sub_1 67 rfl rfl⟩
theorem ms_U16_getChar : MS m_U16_getChar 2 := ⟨⟨gT_at sub_1 72 rfl rfl, gT_at sub_1 6 rfl rfl, by decide +kernel⟩, gT_at sub_1 71 rfl rfl⟩
theorem ms_Tokens_withLetter : MS m_Tokens_withLetter 2 := ⟨⟨gT_at sub_1 81 rfl rfl, gT_at sub_1 2 rfl rfl, by decide +kernel⟩, gT_at sub_1 80 rfl rfl⟩
theorem mn_Syntax_init : MN m_Syntax_init 0 := ⟨⟨gT_at sub_1 120 rfl rfl, gT_at sub_1 7 rfl rfl, by decide +kernel⟩, gT_at sub_1 119 rfl rfl, rfl, rfl⟩
theorem mn_Meaning_init : MN m_Meaning_init 0 := ⟨⟨gT_at sub_1 142 rfl rfl, gT_at sub_1 8 rfl rfl, by decide +kernel⟩, gT_at sub_1 141 rfl rfl, rfl, rfl⟩
theorem mn_Builder_init : MN m_Builder_init 1 := ⟨⟨gT_at sub_1 170 rfl rfl, gT_at sub_1 9 rfl rfl, by decide +kernel⟩, gT_at sub_1 169 rfl rfl, rfl, rfl⟩
theorem mn_Shape_init : MN m_Shape_init 0 := ⟨⟨gT_at sub_1 177 rfl rfl, gT_at sub_1 10 rfl rfl, by decide +kernel⟩, gT_at sub_1 176 rfl rfl, rfl, rfl⟩
theorem mn_Measure_init : MN m_Measure_init 0 := ⟨⟨gT_at sub_1 226 rfl rfl, gT_at sub_1 11 rfl rfl, by decide +kernel⟩, gT_at sub_1 225 rfl rfl, rfl, rfl⟩
theorem mn_Filler_init : MN m_Filler_init 1 := ⟨⟨gT_at sub_2 4 rfl rfl, gT_at sub_1 12 rfl rfl, by decide +kernel⟩, gT_at sub_2 3 rfl rfl, rfl, rfl⟩
theorem mn_Cutter_init : MN m_Cutter_init 0 := ⟨⟨gT_at sub_2 52 rfl rfl, gT_at sub_1 13 rfl rfl, by decide +kernel⟩, gT_at sub_2 51 rfl rfl, rfl, rfl⟩
theorem mn_Form_init : MN m_Form_init 0 := ⟨⟨gT_at sub_2 60 rfl rfl, gT_at sub_1 14 rfl rfl, by decide +kernel⟩, gT_at sub_2 59 rfl rfl, rfl, rfl⟩
theorem mn_Table_init : MN m_Table_init 0 := ⟨⟨gT_at sub_2 135 rfl rfl, gT_at sub_1 15 rfl rfl, by decide +kernel⟩, gT_at sub_2 134 rfl rfl, rfl, rfl⟩
theorem mn_Book_init : MN m_Book_init 0 := ⟨⟨gT_at sub_2 159 rfl rfl, gT_at sub_1 16 rfl rfl, by decide +kernel⟩, gT_at sub_2 158 rfl rfl, rfl, rfl⟩
theorem mv_Q_feed : MV m_Q_feed 5 := ⟨⟨gT_at sub_3 4 rfl rfl, gT_at sub_1 1 rfl rfl, by decide +kernel⟩, gT_at sub_3 2 rfl rfl, gT_at sub_3 3 rfl rfl⟩
theorem mv_Q_appendBytes : MV m_Q_appendBytes 1 := ⟨⟨gT_at sub_3 8 rfl rfl, gT_at sub_1 1 rfl rfl, by decide +kernel⟩, gT_at sub_3 7 rfl rfl, gT_of 0 (by decide +kernel) rfl⟩
theorem mv_Q_back : MV m_Q_back 1 := ⟨⟨gT_at sub_3 12 rfl rfl, gT_at sub_1 1 rfl rfl, by decide +kernel⟩, gT_at sub_3 10 rfl rfl, gT_at sub_3 11 rfl rfl⟩
theorem mv_Q_read : MV m_Q_read 0 := ⟨⟨gT_at sub_3 16 rfl rfl, gT_at sub_1 1 rfl rfl, by decide +kernel⟩, gT_at sub_3 14 rfl rfl, gT_at sub_3 15 rfl rfl⟩
theorem mv_Tokens_scan : MV m_Tokens_scan 2 := ⟨⟨gT_at sub_3 20 rfl rfl, gT_at sub_1 2 rfl rfl, by decide +kernel⟩, gT_at sub_3 18 rfl rfl, gT_at sub_3 19 rfl rfl⟩
theorem ms_Tokens_byteAt : MS m_Tokens_byteAt 3 := ⟨⟨gT_at sub_3 23 rfl rfl, gT_at sub_1 2 rfl rfl, by decide +kernel⟩, gT_at sub_3 22 rfl rfl⟩
theorem ms_Tokens_isBlank : MS m_Tokens_isBlank 1 := ⟨⟨gT_at sub_3 26 rfl rfl, gT_at sub_1 2 rfl rfl, by decide +kernel⟩, gT_at sub_3 25 rfl rfl⟩
theorem ms_Tokens_isLetter : MS m_Tokens_isLetter 1 := ⟨⟨gT_at sub_3 29 rfl rfl, gT_at sub_1 2 rfl rfl, by decide +kernel⟩, gT_at sub_3 28 rfl rfl⟩
theorem mv_Tokens_scanLetters : MV m_Tokens_scanLetters 3 := ⟨⟨gT_at sub_3 33 rfl rfl, gT_at sub_1 2 rfl rfl, by decide +kernel⟩, gT_at sub_3 32 rfl rfl, gT_of 1 (by decide +kernel) rfl⟩
theorem mv_Tokens_kindOfWord : MV m_Tokens_kindOfWord 1 := ⟨⟨gT_at sub_3 37 rfl rfl, gT_at sub_1 2 rfl rfl, by decide +kernel⟩, gT_at sub_3 36 rfl rfl, gT_of 2 (by decide +kernel) rfl⟩
theorem mv_Tokens_add : MV m_Tokens_add 3 := ⟨⟨gT_at sub_3 41 rfl rfl, gT_at sub_1 2 rfl rfl, by decide +kernel⟩, gT_at sub_3 40 rfl rfl, gT_of 3 (by decide +kernel) rfl⟩
theorem ms_Tokens_isDigit : MS m_Tokens_isDigit 1 := ⟨⟨gT_at sub_3 44 rfl rfl, gT_at sub_1 2 rfl rfl, by decide +kernel⟩, gT_at sub_3 43 rfl rfl⟩
theorem mv_Tokens_scanDigits : MV m_Tokens_scanDigits 3 := ⟨⟨gT_at sub_3 48 rfl rfl, gT_at sub_1 2 rfl rfl, by decide +kernel⟩, gT_at sub_3 47 rfl rfl, gT_of 4 (by decide +kernel) rfl⟩
theorem mv_Str_indexOf_1 : MV m_Str_indexOf_1 1 := ⟨⟨gT_at sub_3 53 rfl rfl, gT_at sub_1 3 rfl rfl, by decide +kernel⟩, gT_at sub_3 51 rfl rfl, gT_at sub_3 52 rfl rfl⟩
theorem mv_Str_indexOf_2 : MV m_Str_indexOf_2 2 := ⟨⟨gT_at sub_3 57 rfl rfl, gT_at sub_1 3 rfl rfl, by decide +kernel⟩, gT_at sub_3 55 rfl rfl, gT_at sub_3 56 rfl rfl⟩
theorem mv_Str_length : MV m_Str_length 0 := ⟨⟨gT_at sub_3 61 rfl rfl, gT_at sub_1 3 rfl rfl, by decide +kernel⟩, gT_at sub_3 59 rfl rfl, gT_at sub_3 60 rfl rfl⟩
theorem mv_Str_coder : MV m_Str_coder 0 := ⟨⟨gT_at sub_3 65 rfl rfl, gT_at sub_1 3 rfl rfl, by decide +kernel⟩, gT_at sub_3 63 rfl rfl, gT_at sub_3 64 rfl rfl⟩
theorem ms_Lat_indexOf : MS m_Lat_indexOf 4 := ⟨⟨gT_at sub_3 68 rfl rfl, gT_at sub_1 4 rfl rfl, by decide +kernel⟩, gT_at sub_3 67 rfl rfl⟩
theorem ms_Lat_canEncode : MS m_Lat_canEncode 1 := ⟨⟨gT_at sub_3 71 rfl rfl, gT_at sub_1 4 rfl rfl, by decide +kernel⟩, gT_at sub_3 70 rfl rfl⟩
theorem ms_Math_max : MS m_Math_max 2 := ⟨⟨gT_at sub_3 74 rfl rfl, gT_at sub_1 18 rfl rfl, by decide +kernel⟩, gT_at sub_3 73 rfl rfl⟩
theorem ms_Math_min : MS m_Math_min 2 := ⟨⟨gT_at sub_3 77 rfl rfl, gT_at sub_1 18 rfl rfl, by decide +kernel⟩, gT_at sub_3 76 rfl rfl⟩
theorem ms_Lat_indexOfChar : MS m_Lat_indexOfChar 4 := ⟨⟨gT_at sub_3 80 rfl rfl, gT_at sub_1 4 rfl rfl, by decide +kernel⟩, gT_at sub_3 79 rfl rfl⟩
theorem ms_U16_indexOf : MS m_U16_indexOf 4 := ⟨⟨gT_at sub_3 83 rfl rfl, gT_at sub_1 6 rfl rfl, by decide +kernel⟩, gT_at sub_3 82 rfl rfl⟩
theorem ms_U16_indexOfChar : MS m_U16_indexOfChar 4 := ⟨⟨gT_at sub_3 89 rfl rfl, gT_at sub_1 6 rfl rfl, by decide +kernel⟩, gT_at sub_3 88 rfl rfl⟩
theorem ms_U16_checkBoundsBeginEnd : MS m_U16_checkBoundsBeginEnd 3 := ⟨⟨gT_at sub_3 92 rfl rfl, gT_at sub_1 6 rfl rfl, by decide +kernel⟩, gT_at sub_3 91 rfl rfl⟩
theorem ms_Str_checkBoundsBeginEnd : MS m_Str_checkBoundsBeginEnd 3 := ⟨⟨gT_at sub_3 95 rfl rfl, gT_at sub_1 3 rfl rfl, by decide +kernel⟩, gT_at sub_3 94 rfl rfl⟩
theorem ms_Pre_checkFromToIndex : MS m_Pre_checkFromToIndex 4 := ⟨⟨gT_at sub_3 98 rfl rfl, gT_at sub_1 5 rfl rfl, by decide +kernel⟩, gT_at sub_3 97 rfl rfl⟩
theorem ms_U16_indexOfCharUnsafe : MS m_U16_indexOfCharUnsafe 4 := ⟨⟨gT_at sub_3 101 rfl rfl, gT_at sub_1 6 rfl rfl, by decide +kernel⟩, gT_at sub_3 100 rfl rfl⟩
theorem ms_U16_indexOfSupplementary : MS m_U16_indexOfSupplementary 4 := ⟨⟨gT_at sub_3 104 rfl rfl, gT_at sub_1 6 rfl rfl, by decide +kernel⟩, gT_at sub_3 103 rfl rfl⟩
theorem ms_Chr_isValidCodePoint : MS m_Chr_isValidCodePoint 1 := ⟨⟨gT_at sub_3 107 rfl rfl, gT_at sub_1 19 rfl rfl, by decide +kernel⟩, gT_at sub_3 106 rfl rfl⟩
theorem ms_Chr_highSurrogate : MS m_Chr_highSurrogate 1 := ⟨⟨gT_at sub_3 110 rfl rfl, gT_at sub_1 19 rfl rfl, by decide +kernel⟩, gT_at sub_3 109 rfl rfl⟩
theorem ms_Chr_lowSurrogate : MS m_Chr_lowSurrogate 1 := ⟨⟨gT_at sub_3 114 rfl rfl, gT_at sub_1 19 rfl rfl, by decide +kernel⟩, gT_at sub_3 113 rfl rfl⟩
theorem mv_Syntax_check : MV m_Syntax_check 1 := ⟨⟨gT_at sub_3 119 rfl rfl, gT_at sub_1 7 rfl rfl, by decide +kernel⟩, gT_at sub_3 117 rfl rfl, gT_at sub_3 118 rfl rfl⟩
theorem mv_Tokens_kindAt : MV m_Tokens_kindAt 1 := ⟨⟨gT_at sub_3 123 rfl rfl, gT_at sub_1 2 rfl rfl, by decide +kernel⟩, gT_at sub_3 121 rfl rfl, gT_at sub_3 122 rfl rfl⟩
theorem mv_Syntax_next : MV m_Syntax_next 1 := ⟨⟨gT_at sub_3 127 rfl rfl, gT_at sub_1 7 rfl rfl, by decide +kernel⟩, gT_at sub_3 126 rfl rfl, gT_of 5 (by decide +kernel) rfl⟩
theorem mv_Syntax_behindTelling : MV m_Syntax_behindTelling 1 := ⟨⟨gT_at sub_3 131 rfl rfl, gT_at sub_1 7 rfl rfl, by decide +kernel⟩, gT_at sub_3 130 rfl rfl, gT_of 6 (by decide +kernel) rfl⟩
theorem mv_Syntax_inPart : MV m_Syntax_inPart 1 := ⟨⟨gT_at sub_3 135 rfl rfl, gT_at sub_1 7 rfl rfl, by decide +kernel⟩, gT_at sub_3 134 rfl rfl, gT_of 7 (by decide +kernel) rfl⟩
theorem mv_Syntax_behindShiftNumber : MV m_Syntax_behindShiftNumber 1 := ⟨⟨gT_at sub_3 139 rfl rfl, gT_at sub_1 7 rfl rfl, by decide +kernel⟩, gT_at sub_3 138 rfl rfl, gT_of 8 (by decide +kernel) rfl⟩
theorem mv_Syntax_behindUnitNumber : MV m_Syntax_behindUnitNumber 1 := ⟨⟨gT_at sub_3 143 rfl rfl, gT_at sub_1 7 rfl rfl, by decide +kernel⟩, gT_at sub_3 142 rfl rfl, gT_of 9 (by decide +kernel) rfl⟩
theorem mv_Syntax_behindUnit : MV m_Syntax_behindUnit 1 := ⟨⟨gT_at sub_3 147 rfl rfl, gT_at sub_1 7 rfl rfl, by decide +kernel⟩, gT_at sub_3 146 rfl rfl, gT_of 10 (by decide +kernel) rfl⟩
theorem mv_Tokens_blame : MV m_Tokens_blame 2 := ⟨⟨gT_at sub_3 151 rfl rfl, gT_at sub_1 2 rfl rfl, by decide +kernel⟩, gT_at sub_3 149 rfl rfl, gT_at sub_3 150 rfl rfl⟩
theorem mv_Tokens_placeAt : MV m_Tokens_placeAt 1 := ⟨⟨gT_at sub_3 155 rfl rfl, gT_at sub_1 2 rfl rfl, by decide +kernel⟩, gT_at sub_3 153 rfl rfl, gT_at sub_3 154 rfl rfl⟩
theorem mv_Syntax_lacksRoom : MV m_Syntax_lacksRoom 0 := ⟨⟨gT_at sub_3 159 rfl rfl, gT_at sub_1 7 rfl rfl, by decide +kernel⟩, gT_at sub_3 158 rfl rfl, gT_of 11 (by decide +kernel) rfl⟩
theorem mv_Meaning_check : MV m_Meaning_check 1 := ⟨⟨gT_at sub_3 163 rfl rfl, gT_at sub_1 8 rfl rfl, by decide +kernel⟩, gT_at sub_3 161 rfl rfl, gT_at sub_3 162 rfl rfl⟩
theorem mv_Meaning_faultAt : MV m_Meaning_faultAt 2 := ⟨⟨gT_at sub_3 167 rfl rfl, gT_at sub_1 8 rfl rfl, by decide +kernel⟩, gT_at sub_3 166 rfl rfl, gT_of 12 (by decide +kernel) rfl⟩
theorem ms_Meaning_isTelling : MS m_Meaning_isTelling 1 := ⟨⟨gT_at sub_3 171 rfl rfl, gT_at sub_1 8 rfl rfl, by decide +kernel⟩, gT_at sub_3 170 rfl rfl⟩
theorem mv_Tokens_valueAt : MV m_Tokens_valueAt 1 := ⟨⟨gT_at sub_3 175 rfl rfl, gT_at sub_1 2 rfl rfl, by decide +kernel⟩, gT_at sub_3 173 rfl rfl, gT_at sub_3 174 rfl rfl⟩
theorem mv_Meaning_openNameFault : MV m_Meaning_openNameFault 1 := ⟨⟨gT_at sub_3 179 rfl rfl, gT_at sub_1 8 rfl rfl, by decide +kernel⟩, gT_at sub_3 178 rfl rfl, gT_of 13 (by decide +kernel) rfl⟩
theorem mv_Meaning_isTold : MV m_Meaning_isTold 1 := ⟨⟨gT_at sub_3 183 rfl rfl, gT_at sub_1 8 rfl rfl, by decide +kernel⟩, gT_at sub_3 182 rfl rfl, gT_of 14 (by decide +kernel) rfl⟩
theorem mv_Meaning_usedNameFault : MV m_Meaning_usedNameFault 1 := ⟨⟨gT_at sub_3 187 rfl rfl, gT_at sub_1 8 rfl rfl, by decide +kernel⟩, gT_at sub_3 186 rfl rfl, gT_of 15 (by decide +kernel) rfl⟩
theorem mv_Meaning_numberFault : MV m_Meaning_numberFault 1 := ⟨⟨gT_at sub_3 191 rfl rfl, gT_at sub_1 8 rfl rfl, by decide +kernel⟩, gT_at sub_3 190 rfl rfl, gT_of 16 (by decide +kernel) rfl⟩
theorem mv_Meaning_leastNumber : MV m_Meaning_leastNumber 1 := ⟨⟨gT_at sub_3 195 rfl rfl, gT_at sub_1 8 rfl rfl, by decide +kernel⟩, gT_at sub_3 194 rfl rfl, gT_of 17 (by decide +kernel) rfl⟩
theorem mv_Meaning_mostNumber : MV m_Meaning_mostNumber 1 := ⟨⟨gT_at sub_3 199 rfl rfl, gT_at sub_1 8 rfl rfl, by decide +kernel⟩, gT_at sub_3 198 rfl rfl, gT_of 18 (by decide +kernel) rfl⟩
theorem mv_Meaning_closeName : MV m_Meaning_closeName 0 := ⟨⟨gT_at sub_3 203 rfl rfl, gT_at sub_1 8 rfl rfl, by decide +kernel⟩, gT_at sub_3 202 rfl rfl, gT_of 19 (by decide +kernel) rfl⟩
theorem mv_Builder_build : MV m_Builder_build 0 := ⟨⟨gT_at sub_3 208 rfl rfl, gT_at sub_1 9 rfl rfl, by decide +kernel⟩, gT_at sub_3 206 rfl rfl, gT_at sub_3 207 rfl rfl⟩
theorem mv_Builder_sumUp : MV m_Builder_sumUp 1 := ⟨⟨gT_at sub_3 214 rfl rfl, gT_at sub_1 9 rfl rfl, by decide +kernel⟩, gT_at sub_3 213 rfl rfl, gT_of 20 (by decide +kernel) rfl⟩
theorem mv_Builder_makePart : MV m_Builder_makePart 1 := ⟨⟨gT_at sub_3 218 rfl rfl, gT_at sub_1 9 rfl rfl, by decide +kernel⟩, gT_at sub_3 217 rfl rfl, gT_of 21 (by decide +kernel) rfl⟩
theorem ms_Builder_isWord : MS m_Builder_isWord 1 := ⟨⟨gT_at sub_3 221 rfl rfl, gT_at sub_1 9 rfl rfl, by decide +kernel⟩, gT_at sub_3 220 rfl rfl⟩
theorem mv_Builder_openWord : MV m_Builder_openWord 0 := ⟨⟨gT_at sub_3 225 rfl rfl, gT_at sub_1 9 rfl rfl, by decide +kernel⟩, gT_at sub_3 224 rfl rfl, gT_of 22 (by decide +kernel) rfl⟩
theorem mv_Builder_behindNumber : MV m_Builder_behindNumber 1 := ⟨⟨gT_at sub_3 229 rfl rfl, gT_at sub_1 9 rfl rfl, by decide +kernel⟩, gT_at sub_3 228 rfl rfl, gT_of 23 (by decide +kernel) rfl⟩
theorem mv_Builder_makeUnit : MV m_Builder_makeUnit 1 := ⟨⟨gT_at sub_3 233 rfl rfl, gT_at sub_1 9 rfl rfl, by decide +kernel⟩, gT_at sub_3 232 rfl rfl, gT_of 24 (by decide +kernel) rfl⟩
theorem mv_Shape_copy : MV m_Shape_copy 1 := ⟨⟨gT_at sub_3 237 rfl rfl, gT_at sub_1 10 rfl rfl, by decide +kernel⟩, gT_at sub_3 235 rfl rfl, gT_at sub_3 236 rfl rfl⟩
theorem mv_Builder_copyNamed : MV m_Builder_copyNamed 2 := ⟨⟨gT_at sub_4 1 rfl rfl, gT_at sub_1 9 rfl rfl, by decide +kernel⟩, gT_at sub_4 0 rfl rfl, gT_of 25 (by decide +kernel) rfl⟩
theorem mv_Shape_clear : MV m_Shape_clear 0 := ⟨⟨gT_at sub_4 5 rfl rfl, gT_at sub_1 10 rfl rfl, by decide +kernel⟩, gT_at sub_4 3 rfl rfl, gT_at sub_4 4 rfl rfl⟩
theorem mv_Builder_makeCells : MV m_Builder_makeCells 2 := ⟨⟨gT_at sub_4 9 rfl rfl, gT_at sub_1 9 rfl rfl, by decide +kernel⟩, gT_at sub_4 8 rfl rfl, gT_of 26 (by decide +kernel) rfl⟩
theorem mv_Builder_numberAt : MV m_Builder_numberAt 1 := ⟨⟨gT_at sub_4 13 rfl rfl, gT_at sub_1 9 rfl rfl, by decide +kernel⟩, gT_at sub_4 12 rfl rfl, gT_of 27 (by decide +kernel) rfl⟩
theorem mv_Shape_addCell : MV m_Shape_addCell 3 := ⟨⟨gT_at sub_4 17 rfl rfl, gT_at sub_1 10 rfl rfl, by decide +kernel⟩, gT_at sub_4 15 rfl rfl, gT_at sub_4 16 rfl rfl⟩
theorem ms_Builder_addBox : MS m_Builder_addBox 5 := ⟨⟨gT_at sub_4 20 rfl rfl, gT_at sub_1 9 rfl rfl, by decide +kernel⟩, gT_at sub_4 19 rfl rfl⟩
theorem mv_Builder_doWord : MV m_Builder_doWord 2 := ⟨⟨gT_at sub_4 24 rfl rfl, gT_at sub_1 9 rfl rfl, by decide +kernel⟩, gT_at sub_4 23 rfl rfl, gT_of 28 (by decide +kernel) rfl⟩
theorem mv_Shape_becomeTurned : MV m_Shape_becomeTurned 1 := ⟨⟨gT_at sub_4 28 rfl rfl, gT_at sub_1 10 rfl rfl, by decide +kernel⟩, gT_at sub_4 26 rfl rfl, gT_at sub_4 27 rfl rfl⟩
theorem mv_Shape_cell : MV m_Shape_cell 2 := ⟨⟨gT_at sub_4 33 rfl rfl, gT_at sub_1 10 rfl rfl, by decide +kernel⟩, gT_at sub_4 31 rfl rfl, gT_at sub_4 32 rfl rfl⟩
theorem mv_Shape_becomeFlipped : MV m_Shape_becomeFlipped 1 := ⟨⟨gT_at sub_4 38 rfl rfl, gT_at sub_1 10 rfl rfl, by decide +kernel⟩, gT_at sub_4 36 rfl rfl, gT_at sub_4 37 rfl rfl⟩
theorem mv_Shape_moveToBase : MV m_Shape_moveToBase 0 := ⟨⟨gT_at sub_4 42 rfl rfl, gT_at sub_1 10 rfl rfl, by decide +kernel⟩, gT_at sub_4 40 rfl rfl, gT_at sub_4 41 rfl rfl⟩
theorem mv_Shape_top : MV m_Shape_top 0 := ⟨⟨gT_at sub_4 46 rfl rfl, gT_at sub_1 10 rfl rfl, by decide +kernel⟩, gT_at sub_4 44 rfl rfl, gT_at sub_4 45 rfl rfl⟩
theorem mv_Shape_columns : MV m_Shape_columns 0 := ⟨⟨gT_at sub_4 50 rfl rfl, gT_at sub_1 10 rfl rfl, by decide +kernel⟩, gT_at sub_4 49 rfl rfl, gT_of 29 (by decide +kernel) rfl⟩
theorem ms_Shape_leftmost : MS m_Shape_leftmost 1 := ⟨⟨gT_at sub_4 53 rfl rfl, gT_at sub_1 10 rfl rfl, by decide +kernel⟩, gT_at sub_4 52 rfl rfl⟩
theorem ms_Shape_slide : MS m_Shape_slide 2 := ⟨⟨gT_at sub_4 56 rfl rfl, gT_at sub_1 10 rfl rfl, by decide +kernel⟩, gT_at sub_4 55 rfl rfl⟩
theorem mv_Shape_goesOff : MV m_Shape_goesOff 2 := ⟨⟨gT_at sub_4 60 rfl rfl, gT_at sub_1 10 rfl rfl, by decide +kernel⟩, gT_at sub_4 58 rfl rfl, gT_at sub_4 59 rfl rfl⟩
theorem mv_Shape_isNothing : MV m_Shape_isNothing 0 := ⟨⟨gT_at sub_4 64 rfl rfl, gT_at sub_1 10 rfl rfl, by decide +kernel⟩, gT_at sub_4 62 rfl rfl, gT_at sub_4 63 rfl rfl⟩
theorem mv_Shape_left : MV m_Shape_left 0 := ⟨⟨gT_at sub_4 68 rfl rfl, gT_at sub_1 10 rfl rfl, by decide +kernel⟩, gT_at sub_4 66 rfl rfl, gT_at sub_4 67 rfl rfl⟩
theorem mv_Shape_right : MV m_Shape_right 0 := ⟨⟨gT_at sub_4 72 rfl rfl, gT_at sub_1 10 rfl rfl, by decide +kernel⟩, gT_at sub_4 70 rfl rfl, gT_at sub_4 71 rfl rfl⟩
theorem mv_Shape_bottom : MV m_Shape_bottom 0 := ⟨⟨gT_at sub_4 76 rfl rfl, gT_at sub_1 10 rfl rfl, by decide +kernel⟩, gT_at sub_4 74 rfl rfl, gT_at sub_4 75 rfl rfl⟩
theorem mv_Shape_becomeShifted : MV m_Shape_becomeShifted 3 := ⟨⟨gT_at sub_4 81 rfl rfl, gT_at sub_1 10 rfl rfl, by decide +kernel⟩, gT_at sub_4 79 rfl rfl, gT_at sub_4 80 rfl rfl⟩
theorem ms_Builder_combine : MS m_Builder_combine 3 := ⟨⟨gT_at sub_4 84 rfl rfl, gT_at sub_1 9 rfl rfl, by decide +kernel⟩, gT_at sub_4 83 rfl rfl⟩
theorem mv_Shape_join : MV m_Shape_join 1 := ⟨⟨gT_at sub_4 88 rfl rfl, gT_at sub_1 10 rfl rfl, by decide +kernel⟩, gT_at sub_4 86 rfl rfl, gT_at sub_4 87 rfl rfl⟩
theorem mv_Shape_takeAway : MV m_Shape_takeAway 1 := ⟨⟨gT_at sub_4 92 rfl rfl, gT_at sub_1 10 rfl rfl, by decide +kernel⟩, gT_at sub_4 90 rfl rfl, gT_at sub_4 91 rfl rfl⟩
theorem mv_Shape_keepCommon : MV m_Shape_keepCommon 1 := ⟨⟨gT_at sub_4 96 rfl rfl, gT_at sub_1 10 rfl rfl, by decide +kernel⟩, gT_at sub_4 94 rfl rfl, gT_at sub_4 95 rfl rfl⟩
theorem mv_Q_takeOver : MV m_Q_takeOver 0 := ⟨⟨gT_at sub_4 101 rfl rfl, gT_at sub_1 1 rfl rfl, by decide +kernel⟩, gT_at sub_4 100 rfl rfl, gT_of 30 (by decide +kernel) rfl⟩
theorem mv_Form_tell : MV m_Form_tell 1 := ⟨⟨gT_at sub_4 105 rfl rfl, gT_at sub_1 14 rfl rfl, by decide +kernel⟩, gT_at sub_4 103 rfl rfl, gT_at sub_4 104 rfl rfl⟩
theorem mv_Shape_countQuarters : MV m_Shape_countQuarters 0 := ⟨⟨gT_at sub_4 110 rfl rfl, gT_at sub_1 10 rfl rfl, by decide +kernel⟩, gT_at sub_4 108 rfl rfl, gT_at sub_4 109 rfl rfl⟩
theorem ms_Integer_bitCount : MS m_Integer_bitCount 1 := ⟨⟨gT_at sub_4 113 rfl rfl, gT_at sub_1 20 rfl rfl, by decide +kernel⟩, gT_at sub_4 112 rfl rfl⟩
theorem mv_Form_makeImage : MV m_Form_makeImage 1 := ⟨⟨gT_at sub_4 120 rfl rfl, gT_at sub_1 14 rfl rfl, by decide +kernel⟩, gT_at sub_4 119 rfl rfl, gT_of 31 (by decide +kernel) rfl⟩
theorem mv_Shape_lowestQuarter : MV m_Shape_lowestQuarter 0 := ⟨⟨gT_at sub_4 127 rfl rfl, gT_at sub_1 10 rfl rfl, by decide +kernel⟩, gT_at sub_4 125 rfl rfl, gT_at sub_4 126 rfl rfl⟩
theorem mv_Shape_isSame : MV m_Shape_isSame 1 := ⟨⟨gT_at sub_4 133 rfl rfl, gT_at sub_1 10 rfl rfl, by decide +kernel⟩, gT_at sub_4 131 rfl rfl, gT_at sub_4 132 rfl rfl⟩
theorem mv_Table_empty : MV m_Table_empty 0 := ⟨⟨gT_at sub_4 137 rfl rfl, gT_at sub_1 15 rfl rfl, by decide +kernel⟩, gT_at sub_4 135 rfl rfl, gT_at sub_4 136 rfl rfl⟩
theorem mv_Table_take : MV m_Table_take 1 := ⟨⟨gT_at sub_4 141 rfl rfl, gT_at sub_1 15 rfl rfl, by decide +kernel⟩, gT_at sub_4 139 rfl rfl, gT_at sub_4 140 rfl rfl⟩
theorem mv_Book_empty : MV m_Book_empty 0 := ⟨⟨gT_at sub_4 146 rfl rfl, gT_at sub_1 16 rfl rfl, by decide +kernel⟩, gT_at sub_4 144 rfl rfl, gT_at sub_4 145 rfl rfl⟩
theorem mv_Filler_forget : MV m_Filler_forget 0 := ⟨⟨gT_at sub_4 150 rfl rfl, gT_at sub_1 12 rfl rfl, by decide +kernel⟩, gT_at sub_4 148 rfl rfl, gT_at sub_4 149 rfl rfl⟩
theorem mv_Filler_forgetSets : MV m_Filler_forgetSets 0 := ⟨⟨gT_at sub_4 154 rfl rfl, gT_at sub_1 12 rfl rfl, by decide +kernel⟩, gT_at sub_4 152 rfl rfl, gT_at sub_4 153 rfl rfl⟩
theorem mv_Cutter_forget : MV m_Cutter_forget 0 := ⟨⟨gT_at sub_4 158 rfl rfl, gT_at sub_1 13 rfl rfl, by decide +kernel⟩, gT_at sub_4 156 rfl rfl, gT_at sub_4 157 rfl rfl⟩
theorem mv_Q_place : MV m_Q_place 0 := ⟨⟨gT_at sub_4 162 rfl rfl, gT_at sub_1 1 rfl rfl, by decide +kernel⟩, gT_at sub_4 160 rfl rfl, gT_at sub_4 161 rfl rfl⟩
theorem mv_Q_area : MV m_Q_area 2 := ⟨⟨gT_at sub_4 166 rfl rfl, gT_at sub_1 1 rfl rfl, by decide +kernel⟩, gT_at sub_4 164 rfl rfl, gT_at sub_4 165 rfl rfl⟩
theorem mv_Q_formOf : MV m_Q_formOf 2 := ⟨⟨gT_at sub_4 170 rfl rfl, gT_at sub_1 1 rfl rfl, by decide +kernel⟩, gT_at sub_4 169 rfl rfl, gT_of 32 (by decide +kernel) rfl⟩
theorem mv_Q_has : MV m_Q_has 3 := ⟨⟨gT_at sub_4 174 rfl rfl, gT_at sub_1 1 rfl rfl, by decide +kernel⟩, gT_at sub_4 172 rfl rfl, gT_at sub_4 173 rfl rfl⟩
theorem ms_Q_isQuarter : MS m_Q_isQuarter 1 := ⟨⟨gT_at sub_4 177 rfl rfl, gT_at sub_1 1 rfl rfl, by decide +kernel⟩, gT_at sub_4 176 rfl rfl⟩
theorem mv_Shape_holds : MV m_Shape_holds 1 := ⟨⟨gT_at sub_4 181 rfl rfl, gT_at sub_1 10 rfl rfl, by decide +kernel⟩, gT_at sub_4 179 rfl rfl, gT_at sub_4 180 rfl rfl⟩
theorem mv_Q_pieces : MV m_Q_pieces 2 := ⟨⟨gT_at sub_4 185 rfl rfl, gT_at sub_1 1 rfl rfl, by decide +kernel⟩, gT_at sub_4 183 rfl rfl, gT_at sub_4 184 rfl rfl⟩
theorem mv_Measure_countPieces : MV m_Measure_countPieces 1 := ⟨⟨gT_at sub_4 189 rfl rfl, gT_at sub_1 11 rfl rfl, by decide +kernel⟩, gT_at sub_4 187 rfl rfl, gT_at sub_4 188 rfl rfl⟩
theorem mv_Measure_takePiece : MV m_Measure_takePiece 1 := ⟨⟨gT_at sub_4 195 rfl rfl, gT_at sub_1 11 rfl rfl, by decide +kernel⟩, gT_at sub_4 194 rfl rfl, gT_of 33 (by decide +kernel) rfl⟩
theorem mv_Measure_takeOpen : MV m_Measure_takeOpen 1 := ⟨⟨gT_at sub_4 199 rfl rfl, gT_at sub_1 11 rfl rfl, by decide +kernel⟩, gT_at sub_4 198 rfl rfl, gT_of 34 (by decide +kernel) rfl⟩
theorem mv_Shape_drop : MV m_Shape_drop 1 := ⟨⟨gT_at sub_4 203 rfl rfl, gT_at sub_1 10 rfl rfl, by decide +kernel⟩, gT_at sub_4 201 rfl rfl, gT_at sub_4 202 rfl rfl⟩
theorem ms_Measure_across : MS m_Measure_across 1 := ⟨⟨gT_at sub_4 206 rfl rfl, gT_at sub_1 11 rfl rfl, by decide +kernel⟩, gT_at sub_4 205 rfl rfl⟩
theorem mv_Q_corners : MV m_Q_corners 3 := ⟨⟨gT_at sub_4 210 rfl rfl, gT_at sub_1 1 rfl rfl, by decide +kernel⟩, gT_at sub_4 208 rfl rfl, gT_at sub_4 209 rfl rfl⟩
theorem mv_Measure_countCorners : MV m_Measure_countCorners 2 := ⟨⟨gT_at sub_4 214 rfl rfl, gT_at sub_1 11 rfl rfl, by decide +kernel⟩, gT_at sub_4 212 rfl rfl, gT_at sub_4 213 rfl rfl⟩
theorem ms_Measure_ringAt : MS m_Measure_ringAt 3 := ⟨⟨gT_at sub_4 217 rfl rfl, gT_at sub_1 11 rfl rfl, by decide +kernel⟩, gT_at sub_4 216 rfl rfl⟩
theorem ms_Measure_countAngles : MS m_Measure_countAngles 3 := ⟨⟨gT_at sub_4 221 rfl rfl, gT_at sub_1 11 rfl rfl, by decide +kernel⟩, gT_at sub_4 220 rfl rfl⟩
theorem ms_Measure_rowLength : MS m_Measure_rowLength 3 := ⟨⟨gT_at sub_4 224 rfl rfl, gT_at sub_1 11 rfl rfl, by decide +kernel⟩, gT_at sub_4 223 rfl rfl⟩
theorem mv_Q_bulges : MV m_Q_bulges 2 := ⟨⟨gT_at sub_4 228 rfl rfl, gT_at sub_1 1 rfl rfl, by decide +kernel⟩, gT_at sub_4 226 rfl rfl, gT_at sub_4 227 rfl rfl⟩
theorem mv_Measure_isOnePiece : MV m_Measure_isOnePiece 1 := ⟨⟨gT_at sub_4 232 rfl rfl, gT_at sub_1 11 rfl rfl, by decide +kernel⟩, gT_at sub_4 230 rfl rfl, gT_at sub_4 231 rfl rfl⟩
theorem mv_Q_images : MV m_Q_images 2 := ⟨⟨gT_at sub_4 238 rfl rfl, gT_at sub_1 1 rfl rfl, by decide +kernel⟩, gT_at sub_4 236 rfl rfl, gT_at sub_4 237 rfl rfl⟩
theorem mv_Form_countDifferent : MV m_Form_countDifferent 0 := ⟨⟨gT_at sub_5 2 rfl rfl, gT_at sub_1 14 rfl rfl, by decide +kernel⟩, gT_at sub_5 0 rfl rfl, gT_at sub_5 1 rfl rfl⟩
theorem mv_Q_least : MV m_Q_least 3 := ⟨⟨gT_at sub_5 6 rfl rfl, gT_at sub_1 1 rfl rfl, by decide +kernel⟩, gT_at sub_5 4 rfl rfl, gT_at sub_5 5 rfl rfl⟩
theorem ms_Q_isImage : MS m_Q_isImage 1 := ⟨⟨gT_at sub_5 9 rfl rfl, gT_at sub_1 1 rfl rfl, by decide +kernel⟩, gT_at sub_5 8 rfl rfl⟩
theorem mv_Q_alike : MV m_Q_alike 2 := ⟨⟨gT_at sub_5 13 rfl rfl, gT_at sub_1 1 rfl rfl, by decide +kernel⟩, gT_at sub_5 11 rfl rfl, gT_at sub_5 12 rfl rfl⟩
theorem mv_Form_base : MV m_Form_base 0 := ⟨⟨gT_at sub_5 17 rfl rfl, gT_at sub_1 14 rfl rfl, by decide +kernel⟩, gT_at sub_5 15 rfl rfl, gT_at sub_5 16 rfl rfl⟩
theorem mv_Form_imageThatIs : MV m_Form_imageThatIs 1 := ⟨⟨gT_at sub_5 21 rfl rfl, gT_at sub_1 14 rfl rfl, by decide +kernel⟩, gT_at sub_5 19 rfl rfl, gT_at sub_5 20 rfl rfl⟩
theorem mv_Q_shows : MV m_Q_shows 0 := ⟨⟨gT_at sub_5 25 rfl rfl, gT_at sub_1 1 rfl rfl, by decide +kernel⟩, gT_at sub_5 23 rfl rfl, gT_at sub_5 24 rfl rfl⟩
theorem mv_Table_unite : MV m_Table_unite 1 := ⟨⟨gT_at sub_5 29 rfl rfl, gT_at sub_1 15 rfl rfl, by decide +kernel⟩, gT_at sub_5 27 rfl rfl, gT_at sub_5 28 rfl rfl⟩
theorem mv_Q_fill : MV m_Q_fill 2 := ⟨⟨gT_at sub_5 36 rfl rfl, gT_at sub_1 1 rfl rfl, by decide +kernel⟩, gT_at sub_5 34 rfl rfl, gT_at sub_5 35 rfl rfl⟩
theorem mv_Q_isSet : MV m_Q_isSet 1 := ⟨⟨gT_at sub_5 40 rfl rfl, gT_at sub_1 1 rfl rfl, by decide +kernel⟩, gT_at sub_5 39 rfl rfl, gT_of 35 (by decide +kernel) rfl⟩
theorem mv_Filler_countAll : MV m_Filler_countAll 2 := ⟨⟨gT_at sub_5 44 rfl rfl, gT_at sub_1 12 rfl rfl, by decide +kernel⟩, gT_at sub_5 42 rfl rfl, gT_at sub_5 43 rfl rfl⟩
theorem mv_Filler_look : MV m_Filler_look 3 := ⟨⟨gT_at sub_5 48 rfl rfl, gT_at sub_1 12 rfl rfl, by decide +kernel⟩, gT_at sub_5 47 rfl rfl, gT_of 36 (by decide +kernel) rfl⟩
theorem mv_Filler_areaOf : MV m_Filler_areaOf 1 := ⟨⟨gT_at sub_5 52 rfl rfl, gT_at sub_1 12 rfl rfl, by decide +kernel⟩, gT_at sub_5 51 rfl rfl, gT_of 37 (by decide +kernel) rfl⟩
theorem mv_Filler_search : MV m_Filler_search 2 := ⟨⟨gT_at sub_5 57 rfl rfl, gT_at sub_1 12 rfl rfl, by decide +kernel⟩, gT_at sub_5 56 rfl rfl, gT_of 38 (by decide +kernel) rfl⟩
theorem mv_Filler_countWay : MV m_Filler_countWay 0 := ⟨⟨gT_at sub_5 62 rfl rfl, gT_at sub_1 12 rfl rfl, by decide +kernel⟩, gT_at sub_5 61 rfl rfl, gT_of 39 (by decide +kernel) rfl⟩
theorem mv_Filler_isOver : MV m_Filler_isOver 0 := ⟨⟨gT_at sub_5 69 rfl rfl, gT_at sub_1 12 rfl rfl, by decide +kernel⟩, gT_at sub_5 68 rfl rfl, gT_of 40 (by decide +kernel) rfl⟩
theorem mv_Filler_tryBoard : MV m_Filler_tryBoard 4 := ⟨⟨gT_at sub_5 73 rfl rfl, gT_at sub_1 12 rfl rfl, by decide +kernel⟩, gT_at sub_5 72 rfl rfl, gT_of 41 (by decide +kernel) rfl⟩
theorem mv_Form_staysOn : MV m_Form_staysOn 3 := ⟨⟨gT_at sub_5 77 rfl rfl, gT_at sub_1 14 rfl rfl, by decide +kernel⟩, gT_at sub_5 75 rfl rfl, gT_at sub_5 76 rfl rfl⟩
theorem mv_Filler_fits : MV m_Filler_fits 4 := ⟨⟨gT_at sub_5 82 rfl rfl, gT_at sub_1 12 rfl rfl, by decide +kernel⟩, gT_at sub_5 81 rfl rfl, gT_of 42 (by decide +kernel) rfl⟩
theorem ms_Filler_layCode : MS m_Filler_layCode 3 := ⟨⟨gT_at sub_5 86 rfl rfl, gT_at sub_1 12 rfl rfl, by decide +kernel⟩, gT_at sub_5 85 rfl rfl⟩
theorem mv_Filler_change : MV m_Filler_change 4 := ⟨⟨gT_at sub_5 90 rfl rfl, gT_at sub_1 12 rfl rfl, by decide +kernel⟩, gT_at sub_5 89 rfl rfl, gT_of 43 (by decide +kernel) rfl⟩
theorem mv_Q_filled : MV m_Q_filled 2 := ⟨⟨gT_at sub_5 94 rfl rfl, gT_at sub_1 1 rfl rfl, by decide +kernel⟩, gT_at sub_5 92 rfl rfl, gT_at sub_5 93 rfl rfl⟩
theorem mv_Filler_tellRemembered : MV m_Filler_tellRemembered 2 := ⟨⟨gT_at sub_5 98 rfl rfl, gT_at sub_1 12 rfl rfl, by decide +kernel⟩, gT_at sub_5 96 rfl rfl, gT_at sub_5 97 rfl rfl⟩
theorem ms_Filler_tellOf : MS m_Filler_tellOf 2 := ⟨⟨gT_at sub_5 101 rfl rfl, gT_at sub_1 12 rfl rfl, by decide +kernel⟩, gT_at sub_5 100 rfl rfl⟩
theorem mv_Q_steps : MV m_Q_steps 0 := ⟨⟨gT_at sub_5 105 rfl rfl, gT_at sub_1 1 rfl rfl, by decide +kernel⟩, gT_at sub_5 103 rfl rfl, gT_at sub_5 104 rfl rfl⟩
theorem mv_Q_sets : MV m_Q_sets 1 := ⟨⟨gT_at sub_5 109 rfl rfl, gT_at sub_1 1 rfl rfl, by decide +kernel⟩, gT_at sub_5 107 rfl rfl, gT_at sub_5 108 rfl rfl⟩
theorem mv_Filler_countSets : MV m_Filler_countSets 3 := ⟨⟨gT_at sub_5 113 rfl rfl, gT_at sub_1 12 rfl rfl, by decide +kernel⟩, gT_at sub_5 111 rfl rfl, gT_at sub_5 112 rfl rfl⟩
theorem mv_Filler_lookForSets : MV m_Filler_lookForSets 3 := ⟨⟨gT_at sub_5 117 rfl rfl, gT_at sub_1 12 rfl rfl, by decide +kernel⟩, gT_at sub_5 116 rfl rfl, gT_of 44 (by decide +kernel) rfl⟩
theorem mv_Q_set : MV m_Q_set 2 := ⟨⟨gT_at sub_5 121 rfl rfl, gT_at sub_1 1 rfl rfl, by decide +kernel⟩, gT_at sub_5 119 rfl rfl, gT_at sub_5 120 rfl rfl⟩
theorem mv_Filler_setAt : MV m_Filler_setAt 2 := ⟨⟨gT_at sub_5 125 rfl rfl, gT_at sub_1 12 rfl rfl, by decide +kernel⟩, gT_at sub_5 123 rfl rfl, gT_at sub_5 124 rfl rfl⟩
theorem mv_Filler_doesFill : MV m_Filler_doesFill 2 := ⟨⟨gT_at sub_5 129 rfl rfl, gT_at sub_1 12 rfl rfl, by decide +kernel⟩, gT_at sub_5 128 rfl rfl, gT_of 45 (by decide +kernel) rfl⟩
theorem mv_Q_needed : MV m_Q_needed 1 := ⟨⟨gT_at sub_5 133 rfl rfl, gT_at sub_1 1 rfl rfl, by decide +kernel⟩, gT_at sub_5 131 rfl rfl, gT_at sub_5 132 rfl rfl⟩
theorem mv_Filler_inAllSets : MV m_Filler_inAllSets 1 := ⟨⟨gT_at sub_5 137 rfl rfl, gT_at sub_1 12 rfl rfl, by decide +kernel⟩, gT_at sub_5 135 rfl rfl, gT_at sub_5 136 rfl rfl⟩
theorem mv_Q_cut : MV m_Q_cut 2 := ⟨⟨gT_at sub_5 141 rfl rfl, gT_at sub_1 1 rfl rfl, by decide +kernel⟩, gT_at sub_5 139 rfl rfl, gT_at sub_5 140 rfl rfl⟩
theorem mv_Cutter_look : MV m_Cutter_look 3 := ⟨⟨gT_at sub_5 145 rfl rfl, gT_at sub_1 13 rfl rfl, by decide +kernel⟩, gT_at sub_5 143 rfl rfl, gT_at sub_5 144 rfl rfl⟩
theorem mv_Cutter_remember : MV m_Cutter_remember 4 := ⟨⟨gT_at sub_5 152 rfl rfl, gT_at sub_1 13 rfl rfl, by decide +kernel⟩, gT_at sub_5 151 rfl rfl, gT_of 46 (by decide +kernel) rfl⟩
theorem mv_Cutter_lookWith : MV m_Cutter_lookWith 3 := ⟨⟨gT_at sub_5 156 rfl rfl, gT_at sub_1 13 rfl rfl, by decide +kernel⟩, gT_at sub_5 155 rfl rfl, gT_of 47 (by decide +kernel) rfl⟩
theorem mv_Cutter_cuts : MV m_Cutter_cuts 4 := ⟨⟨gT_at sub_5 160 rfl rfl, gT_at sub_1 13 rfl rfl, by decide +kernel⟩, gT_at sub_5 159 rfl rfl, gT_of 48 (by decide +kernel) rfl⟩
theorem mv_Cutter_haveLikeSides : MV m_Cutter_haveLikeSides 0 := ⟨⟨gT_at sub_5 168 rfl rfl, gT_at sub_1 13 rfl rfl, by decide +kernel⟩, gT_at sub_5 167 rfl rfl, gT_of 49 (by decide +kernel) rfl⟩
theorem mv_Q_part : MV m_Q_part 1 := ⟨⟨gT_at sub_5 179 rfl rfl, gT_at sub_1 1 rfl rfl, by decide +kernel⟩, gT_at sub_5 177 rfl rfl, gT_at sub_5 178 rfl rfl⟩
theorem mv_Cutter_partOf : MV m_Cutter_partOf 1 := ⟨⟨gT_at sub_5 183 rfl rfl, gT_at sub_1 13 rfl rfl, by decide +kernel⟩, gT_at sub_5 181 rfl rfl, gT_at sub_5 182 rfl rfl⟩
theorem mv_Q_laid : MV m_Q_laid 1 := ⟨⟨gT_at sub_5 188 rfl rfl, gT_at sub_1 1 rfl rfl, by decide +kernel⟩, gT_at sub_5 186 rfl rfl, gT_at sub_5 187 rfl rfl⟩
theorem mv_Cutter_tellLaid : MV m_Cutter_tellLaid 1 := ⟨⟨gT_at sub_5 192 rfl rfl, gT_at sub_1 13 rfl rfl, by decide +kernel⟩, gT_at sub_5 190 rfl rfl, gT_at sub_5 191 rfl rfl⟩
theorem mv_Q_lay : MV m_Q_lay 4 := ⟨⟨gT_at sub_5 196 rfl rfl, gT_at sub_1 1 rfl rfl, by decide +kernel⟩, gT_at sub_5 194 rfl rfl, gT_at sub_5 195 rfl rfl⟩
theorem mv_Table_holdsBoard : MV m_Table_holdsBoard 1 := ⟨⟨gT_at sub_5 200 rfl rfl, gT_at sub_1 15 rfl rfl, by decide +kernel⟩, gT_at sub_5 198 rfl rfl, gT_at sub_5 199 rfl rfl⟩
theorem mv_Table_put : MV m_Table_put 5 := ⟨⟨gT_at sub_5 205 rfl rfl, gT_at sub_1 15 rfl rfl, by decide +kernel⟩, gT_at sub_5 203 rfl rfl, gT_at sub_5 204 rfl rfl⟩
theorem mv_Table_countLays : MV m_Table_countLays 0 := ⟨⟨gT_at sub_5 211 rfl rfl, gT_at sub_1 15 rfl rfl, by decide +kernel⟩, gT_at sub_5 209 rfl rfl, gT_at sub_5 210 rfl rfl⟩
theorem mv_Table_boardsLaid : MV m_Table_boardsLaid 0 := ⟨⟨gT_at sub_5 215 rfl rfl, gT_at sub_1 15 rfl rfl, by decide +kernel⟩, gT_at sub_5 214 rfl rfl, gT_of 50 (by decide +kernel) rfl⟩
theorem mv_Q_lift : MV m_Q_lift 1 := ⟨⟨gT_at sub_5 221 rfl rfl, gT_at sub_1 1 rfl rfl, by decide +kernel⟩, gT_at sub_5 219 rfl rfl, gT_at sub_5 220 rfl rfl⟩
theorem mv_Q_covers : MV m_Q_covers 1 := ⟨⟨gT_at sub_5 226 rfl rfl, gT_at sub_1 1 rfl rfl, by decide +kernel⟩, gT_at sub_5 224 rfl rfl, gT_at sub_5 225 rfl rfl⟩
theorem mv_Table_boardOn : MV m_Table_boardOn 1 := ⟨⟨gT_at sub_5 230 rfl rfl, gT_at sub_1 15 rfl rfl, by decide +kernel⟩, gT_at sub_5 228 rfl rfl, gT_at sub_5 229 rfl rfl⟩
theorem mv_Q_clashes : MV m_Q_clashes 0 := ⟨⟨gT_at sub_5 235 rfl rfl, gT_at sub_1 1 rfl rfl, by decide +kernel⟩, gT_at sub_5 233 rfl rfl, gT_at sub_5 234 rfl rfl⟩
theorem mv_Table_countClashes : MV m_Table_countClashes 0 := ⟨⟨gT_at sub_5 239 rfl rfl, gT_at sub_1 15 rfl rfl, by decide +kernel⟩, gT_at sub_5 237 rfl rfl, gT_at sub_5 238 rfl rfl⟩
theorem mv_Q_claim : MV m_Q_claim 3 := ⟨⟨gT_at sub_6 6 rfl rfl, gT_at sub_1 1 rfl rfl, by decide +kernel⟩, gT_at sub_6 4 rfl rfl, gT_at sub_6 5 rfl rfl⟩
theorem mv_Book_isFull : MV m_Book_isFull 0 := ⟨⟨gT_at sub_6 10 rfl rfl, gT_at sub_1 16 rfl rfl, by decide +kernel⟩, gT_at sub_6 8 rfl rfl, gT_at sub_6 9 rfl rfl⟩
theorem ms_Q_isPlayer : MS m_Q_isPlayer 1 := ⟨⟨gT_at sub_6 13 rfl rfl, gT_at sub_1 1 rfl rfl, by decide +kernel⟩, gT_at sub_6 12 rfl rfl⟩
theorem mv_Table_judge : MV m_Table_judge 2 := ⟨⟨gT_at sub_6 17 rfl rfl, gT_at sub_1 15 rfl rfl, by decide +kernel⟩, gT_at sub_6 15 rfl rfl, gT_at sub_6 16 rfl rfl⟩
theorem mv_Book_enterClaim : MV m_Book_enterClaim 5 := ⟨⟨gT_at sub_6 25 rfl rfl, gT_at sub_1 16 rfl rfl, by decide +kernel⟩, gT_at sub_6 23 rfl rfl, gT_at sub_6 24 rfl rfl⟩
theorem mv_Table_copyCodes : MV m_Table_copyCodes 1 := ⟨⟨gT_at sub_6 29 rfl rfl, gT_at sub_1 15 rfl rfl, by decide +kernel⟩, gT_at sub_6 27 rfl rfl, gT_at sub_6 28 rfl rfl⟩
theorem mv_Q_annul : MV m_Q_annul 1 := ⟨⟨gT_at sub_6 35 rfl rfl, gT_at sub_1 1 rfl rfl, by decide +kernel⟩, gT_at sub_6 33 rfl rfl, gT_at sub_6 34 rfl rfl⟩
theorem mv_Book_isClaim : MV m_Book_isClaim 1 := ⟨⟨gT_at sub_6 39 rfl rfl, gT_at sub_1 16 rfl rfl, by decide +kernel⟩, gT_at sub_6 37 rfl rfl, gT_at sub_6 38 rfl rfl⟩
theorem mv_Book_enterVoid : MV m_Book_enterVoid 1 := ⟨⟨gT_at sub_6 43 rfl rfl, gT_at sub_1 16 rfl rfl, by decide +kernel⟩, gT_at sub_6 41 rfl rfl, gT_at sub_6 42 rfl rfl⟩
theorem mv_Q_verdict : MV m_Q_verdict 1 := ⟨⟨gT_at sub_6 47 rfl rfl, gT_at sub_1 1 rfl rfl, by decide +kernel⟩, gT_at sub_6 45 rfl rfl, gT_at sub_6 46 rfl rfl⟩
theorem mv_Q_first : MV m_Q_first 2 := ⟨⟨gT_at sub_6 51 rfl rfl, gT_at sub_1 1 rfl rfl, by decide +kernel⟩, gT_at sub_6 49 rfl rfl, gT_at sub_6 50 rfl rfl⟩
theorem mv_Book_isKnownRight : MV m_Book_isKnownRight 2 := ⟨⟨gT_at sub_6 55 rfl rfl, gT_at sub_1 16 rfl rfl, by decide +kernel⟩, gT_at sub_6 53 rfl rfl, gT_at sub_6 54 rfl rfl⟩
theorem mv_Book_firstSame : MV m_Book_firstSame 2 := ⟨⟨gT_at sub_6 60 rfl rfl, gT_at sub_1 16 rfl rfl, by decide +kernel⟩, gT_at sub_6 58 rfl rfl, gT_at sub_6 59 rfl rfl⟩
theorem mv_Book_areSame : MV m_Book_areSame 2 := ⟨⟨gT_at sub_6 65 rfl rfl, gT_at sub_1 16 rfl rfl, by decide +kernel⟩, gT_at sub_6 64 rfl rfl, gT_of 51 (by decide +kernel) rfl⟩
theorem mv_Q_points : MV m_Q_points 2 := ⟨⟨gT_at sub_6 69 rfl rfl, gT_at sub_1 1 rfl rfl, by decide +kernel⟩, gT_at sub_6 67 rfl rfl, gT_at sub_6 68 rfl rfl⟩
theorem mv_Book_countPoints : MV m_Book_countPoints 2 := ⟨⟨gT_at sub_6 73 rfl rfl, gT_at sub_1 16 rfl rfl, by decide +kernel⟩, gT_at sub_6 71 rfl rfl, gT_at sub_6 72 rfl rfl⟩
theorem mv_Q_count : MV m_Q_count 1 := ⟨⟨gT_at sub_6 78 rfl rfl, gT_at sub_1 1 rfl rfl, by decide +kernel⟩, gT_at sub_6 76 rfl rfl, gT_at sub_6 77 rfl rfl⟩
theorem mn_Mo_init : MN m_Mo_init 0 := ⟨⟨gT_at sub_6 83 rfl rfl, gT_at sub_1 17 rfl rfl, by decide +kernel⟩, gT_at sub_6 82 rfl rfl, rfl, rfl⟩
theorem ms_Mo_word : MS m_Mo_word 7 := ⟨⟨gT_at sub_6 88 rfl rfl, gT_at sub_1 17 rfl rfl, by decide +kernel⟩, gT_at sub_6 87 rfl rfl⟩
theorem ms_Mo_more : MS m_Mo_more 2 := ⟨⟨gT_at sub_6 91 rfl rfl, gT_at sub_1 17 rfl rfl, by decide +kernel⟩, gT_at sub_6 90 rfl rfl⟩
theorem mv_Mo_feed : MV m_Mo_feed 5 := ⟨⟨gT_at sub_7 96 rfl rfl, gT_at sub_1 17 rfl rfl, by decide +kernel⟩, gT_at sub_7 94 rfl rfl, gT_at sub_7 95 rfl rfl⟩
theorem mv_Mo_put : MV m_Mo_put 1 := ⟨⟨gT_at sub_7 100 rfl rfl, gT_at sub_1 17 rfl rfl, by decide +kernel⟩, gT_at sub_7 99 rfl rfl, gT_of 52 (by decide +kernel) rfl⟩
theorem mv_Mo_back : MV m_Mo_back 1 := ⟨⟨gT_at sub_7 104 rfl rfl, gT_at sub_1 17 rfl rfl, by decide +kernel⟩, gT_at sub_7 102 rfl rfl, gT_at sub_7 103 rfl rfl⟩
theorem mv_Mo_read : MV m_Mo_read 0 := ⟨⟨gT_at sub_7 108 rfl rfl, gT_at sub_1 17 rfl rfl, by decide +kernel⟩, gT_at sub_7 106 rfl rfl, gT_at sub_7 107 rfl rfl⟩
theorem mv_Mo_cut_0 : MV m_Mo_cut_0 0 := ⟨⟨gT_at sub_7 112 rfl rfl, gT_at sub_1 17 rfl rfl, by decide +kernel⟩, gT_at sub_7 111 rfl rfl, gT_of 53 (by decide +kernel) rfl⟩
theorem mv_Mo_at : MV m_Mo_at 1 := ⟨⟨gT_at sub_7 116 rfl rfl, gT_at sub_1 17 rfl rfl, by decide +kernel⟩, gT_at sub_7 115 rfl rfl, gT_of 54 (by decide +kernel) rfl⟩
theorem mv_Mo_token : MV m_Mo_token 4 := ⟨⟨gT_at sub_7 120 rfl rfl, gT_at sub_1 17 rfl rfl, by decide +kernel⟩, gT_at sub_7 119 rfl rfl, gT_of 55 (by decide +kernel) rfl⟩
theorem ms_Mo_isLetter : MS m_Mo_isLetter 1 := ⟨⟨gT_at sub_7 123 rfl rfl, gT_at sub_1 17 rfl rfl, by decide +kernel⟩, gT_at sub_7 122 rfl rfl⟩
theorem ms_Mo_isDigit : MS m_Mo_isDigit 1 := ⟨⟨gT_at sub_7 126 rfl rfl, gT_at sub_1 17 rfl rfl, by decide +kernel⟩, gT_at sub_7 125 rfl rfl⟩
theorem ms_Mo_sign : MS m_Mo_sign 1 := ⟨⟨gT_at sub_7 129 rfl rfl, gT_at sub_1 17 rfl rfl, by decide +kernel⟩, gT_at sub_7 128 rfl rfl⟩
theorem mv_Mo_is : MV m_Mo_is 1 := ⟨⟨gT_at sub_7 133 rfl rfl, gT_at sub_1 17 rfl rfl, by decide +kernel⟩, gT_at sub_7 132 rfl rfl, gT_of 56 (by decide +kernel) rfl⟩
theorem mv_Mo_tellThing : MV m_Mo_tellThing 0 := ⟨⟨gT_at sub_7 137 rfl rfl, gT_at sub_1 17 rfl rfl, by decide +kernel⟩, gT_at sub_7 136 rfl rfl, gT_of 57 (by decide +kernel) rfl⟩
theorem mv_Mo_fail : MV m_Mo_fail 1 := ⟨⟨gT_at sub_7 141 rfl rfl, gT_at sub_1 17 rfl rfl, by decide +kernel⟩, gT_at sub_7 140 rfl rfl, gT_of 58 (by decide +kernel) rfl⟩
theorem mv_Mo_next : MV m_Mo_next 0 := ⟨⟨gT_at sub_7 145 rfl rfl, gT_at sub_1 17 rfl rfl, by decide +kernel⟩, gT_at sub_7 144 rfl rfl, gT_of 59 (by decide +kernel) rfl⟩
theorem mv_Mo_must : MV m_Mo_must 1 := ⟨⟨gT_at sub_7 149 rfl rfl, gT_at sub_1 17 rfl rfl, by decide +kernel⟩, gT_at sub_7 148 rfl rfl, gT_of 60 (by decide +kernel) rfl⟩
theorem mv_Mo_wrong : MV m_Mo_wrong 2 := ⟨⟨gT_at sub_7 153 rfl rfl, gT_at sub_1 17 rfl rfl, by decide +kernel⟩, gT_at sub_7 152 rfl rfl, gT_of 61 (by decide +kernel) rfl⟩
theorem mv_Mo_expression : MV m_Mo_expression 0 := ⟨⟨gT_at sub_7 157 rfl rfl, gT_at sub_1 17 rfl rfl, by decide +kernel⟩, gT_at sub_7 156 rfl rfl, gT_of 62 (by decide +kernel) rfl⟩
theorem mv_Mo_waitsFor : MV m_Mo_waitsFor 4 := ⟨⟨gT_at sub_7 161 rfl rfl, gT_at sub_1 17 rfl rfl, by decide +kernel⟩, gT_at sub_7 160 rfl rfl, gT_of 63 (by decide +kernel) rfl⟩
theorem mv_Mo_signed : MV m_Mo_signed 0 := ⟨⟨gT_at sub_7 165 rfl rfl, gT_at sub_1 17 rfl rfl, by decide +kernel⟩, gT_at sub_7 164 rfl rfl, gT_of 64 (by decide +kernel) rfl⟩
theorem mv_Mo_number : MV m_Mo_number 2 := ⟨⟨gT_at sub_7 169 rfl rfl, gT_at sub_1 17 rfl rfl, by decide +kernel⟩, gT_at sub_7 168 rfl rfl, gT_of 65 (by decide +kernel) rfl⟩
theorem mv_Mo_unit : MV m_Mo_unit 0 := ⟨⟨gT_at sub_7 173 rfl rfl, gT_at sub_1 17 rfl rfl, by decide +kernel⟩, gT_at sub_7 172 rfl rfl, gT_of 66 (by decide +kernel) rfl⟩
theorem mv_Mo_emit : MV m_Mo_emit 6 := ⟨⟨gT_at sub_7 177 rfl rfl, gT_at sub_1 17 rfl rfl, by decide +kernel⟩, gT_at sub_7 176 rfl rfl, gT_of 67 (by decide +kernel) rfl⟩
theorem mv_Mo_comesOut : MV m_Mo_comesOut 0 := ⟨⟨gT_at sub_7 181 rfl rfl, gT_at sub_1 17 rfl rfl, by decide +kernel⟩, gT_at sub_7 180 rfl rfl, gT_of 68 (by decide +kernel) rfl⟩
theorem mv_Mo_work : MV m_Mo_work 1 := ⟨⟨gT_at sub_7 185 rfl rfl, gT_at sub_1 17 rfl rfl, by decide +kernel⟩, gT_at sub_7 184 rfl rfl, gT_of 69 (by decide +kernel) rfl⟩
theorem mv_Mo_lays : MV m_Mo_lays 2 := ⟨⟨gT_at sub_7 189 rfl rfl, gT_at sub_1 17 rfl rfl, by decide +kernel⟩, gT_at sub_7 188 rfl rfl, gT_of 70 (by decide +kernel) rfl⟩
theorem mv_Mo_pageOf : MV m_Mo_pageOf 1 := ⟨⟨gT_at sub_7 193 rfl rfl, gT_at sub_1 17 rfl rfl, by decide +kernel⟩, gT_at sub_7 192 rfl rfl, gT_of 71 (by decide +kernel) rfl⟩
theorem mv_Mo_copies : MV m_Mo_copies 2 := ⟨⟨gT_at sub_7 197 rfl rfl, gT_at sub_1 17 rfl rfl, by decide +kernel⟩, gT_at sub_7 196 rfl rfl, gT_of 72 (by decide +kernel) rfl⟩
theorem mv_Mo_clears : MV m_Mo_clears 1 := ⟨⟨gT_at sub_7 201 rfl rfl, gT_at sub_1 17 rfl rfl, by decide +kernel⟩, gT_at sub_7 200 rfl rfl, gT_of 73 (by decide +kernel) rfl⟩
theorem mv_Mo_turns : MV m_Mo_turns 3 := ⟨⟨gT_at sub_7 205 rfl rfl, gT_at sub_1 17 rfl rfl, by decide +kernel⟩, gT_at sub_7 204 rfl rfl, gT_of 74 (by decide +kernel) rfl⟩
theorem mv_Mo_bases : MV m_Mo_bases 2 := ⟨⟨gT_at sub_7 209 rfl rfl, gT_at sub_1 17 rfl rfl, by decide +kernel⟩, gT_at sub_7 208 rfl rfl, gT_of 75 (by decide +kernel) rfl⟩
theorem mv_Mo_shifts : MV m_Mo_shifts 4 := ⟨⟨gT_at sub_7 213 rfl rfl, gT_at sub_1 17 rfl rfl, by decide +kernel⟩, gT_at sub_7 212 rfl rfl, gT_of 76 (by decide +kernel) rfl⟩
theorem mv_Mo_comesWrong : MV m_Mo_comesWrong 2 := ⟨⟨gT_at sub_7 217 rfl rfl, gT_at sub_1 17 rfl rfl, by decide +kernel⟩, gT_at sub_7 216 rfl rfl, gT_of 77 (by decide +kernel) rfl⟩
theorem mv_Mo_areaOf : MV m_Mo_areaOf 1 := ⟨⟨gT_at sub_7 221 rfl rfl, gT_at sub_1 17 rfl rfl, by decide +kernel⟩, gT_at sub_7 220 rfl rfl, gT_of 78 (by decide +kernel) rfl⟩
theorem mv_Mo_restarts : MV m_Mo_restarts 0 := ⟨⟨gT_at sub_7 225 rfl rfl, gT_at sub_1 17 rfl rfl, by decide +kernel⟩, gT_at sub_7 224 rfl rfl, gT_of 79 (by decide +kernel) rfl⟩
theorem mv_Mo_place : MV m_Mo_place 0 := ⟨⟨gT_at sub_7 229 rfl rfl, gT_at sub_1 17 rfl rfl, by decide +kernel⟩, gT_at sub_7 227 rfl rfl, gT_at sub_7 228 rfl rfl⟩
theorem mv_Mo_area : MV m_Mo_area 2 := ⟨⟨gT_at sub_7 233 rfl rfl, gT_at sub_1 17 rfl rfl, by decide +kernel⟩, gT_at sub_7 231 rfl rfl, gT_at sub_7 232 rfl rfl⟩
theorem mv_Mo_shape : MV m_Mo_shape 2 := ⟨⟨gT_at sub_7 237 rfl rfl, gT_at sub_1 17 rfl rfl, by decide +kernel⟩, gT_at sub_7 236 rfl rfl, gT_of 80 (by decide +kernel) rfl⟩
theorem mv_Mo_has : MV m_Mo_has 3 := ⟨⟨gT_at sub_8 1 rfl rfl, gT_at sub_1 17 rfl rfl, by decide +kernel⟩, gT_at sub_7 239 rfl rfl, gT_at sub_8 0 rfl rfl⟩
theorem ms_Mo_isQuarter : MS m_Mo_isQuarter 1 := ⟨⟨gT_at sub_8 4 rfl rfl, gT_at sub_1 17 rfl rfl, by decide +kernel⟩, gT_at sub_8 3 rfl rfl⟩
theorem mv_Mo_pieces : MV m_Mo_pieces 2 := ⟨⟨gT_at sub_8 8 rfl rfl, gT_at sub_1 17 rfl rfl, by decide +kernel⟩, gT_at sub_8 6 rfl rfl, gT_at sub_8 7 rfl rfl⟩
theorem mv_Mo_piecesOf : MV m_Mo_piecesOf 1 := ⟨⟨gT_at sub_8 12 rfl rfl, gT_at sub_1 17 rfl rfl, by decide +kernel⟩, gT_at sub_8 11 rfl rfl, gT_of 81 (by decide +kernel) rfl⟩
theorem mv_Mo_meets : MV m_Mo_meets 2 := ⟨⟨gT_at sub_8 16 rfl rfl, gT_at sub_1 17 rfl rfl, by decide +kernel⟩, gT_at sub_8 15 rfl rfl, gT_of 82 (by decide +kernel) rfl⟩
theorem mv_Mo_corners : MV m_Mo_corners 3 := ⟨⟨gT_at sub_8 20 rfl rfl, gT_at sub_1 17 rfl rfl, by decide +kernel⟩, gT_at sub_8 18 rfl rfl, gT_at sub_8 19 rfl rfl⟩
theorem mv_Mo_cornersOf : MV m_Mo_cornersOf 2 := ⟨⟨gT_at sub_8 24 rfl rfl, gT_at sub_1 17 rfl rfl, by decide +kernel⟩, gT_at sub_8 23 rfl rfl, gT_of 83 (by decide +kernel) rfl⟩
theorem mv_Mo_isIn : MV m_Mo_isIn 4 := ⟨⟨gT_at sub_8 28 rfl rfl, gT_at sub_1 17 rfl rfl, by decide +kernel⟩, gT_at sub_8 27 rfl rfl, gT_of 84 (by decide +kernel) rfl⟩
theorem mv_Mo_cornersHere : MV m_Mo_cornersHere 2 := ⟨⟨gT_at sub_8 32 rfl rfl, gT_at sub_1 17 rfl rfl, by decide +kernel⟩, gT_at sub_8 31 rfl rfl, gT_of 85 (by decide +kernel) rfl⟩
theorem mv_Mo_bulges : MV m_Mo_bulges 2 := ⟨⟨gT_at sub_8 36 rfl rfl, gT_at sub_1 17 rfl rfl, by decide +kernel⟩, gT_at sub_8 34 rfl rfl, gT_at sub_8 35 rfl rfl⟩
theorem mv_Mo_images : MV m_Mo_images 2 := ⟨⟨gT_at sub_8 40 rfl rfl, gT_at sub_1 17 rfl rfl, by decide +kernel⟩, gT_at sub_8 38 rfl rfl, gT_at sub_8 39 rfl rfl⟩
theorem mv_Mo_leastSame : MV m_Mo_leastSame 2 := ⟨⟨gT_at sub_8 44 rfl rfl, gT_at sub_1 17 rfl rfl, by decide +kernel⟩, gT_at sub_8 43 rfl rfl, gT_of 86 (by decide +kernel) rfl⟩
theorem mv_Mo_imaged : MV m_Mo_imaged 3 := ⟨⟨gT_at sub_8 48 rfl rfl, gT_at sub_1 17 rfl rfl, by decide +kernel⟩, gT_at sub_8 47 rfl rfl, gT_of 87 (by decide +kernel) rfl⟩
theorem mv_Mo_isSame : MV m_Mo_isSame 2 := ⟨⟨gT_at sub_8 52 rfl rfl, gT_at sub_1 17 rfl rfl, by decide +kernel⟩, gT_at sub_8 51 rfl rfl, gT_of 88 (by decide +kernel) rfl⟩
theorem mv_Mo_least : MV m_Mo_least 3 := ⟨⟨gT_at sub_8 56 rfl rfl, gT_at sub_1 17 rfl rfl, by decide +kernel⟩, gT_at sub_8 54 rfl rfl, gT_at sub_8 55 rfl rfl⟩
theorem mv_Mo_alike : MV m_Mo_alike 2 := ⟨⟨gT_at sub_8 60 rfl rfl, gT_at sub_1 17 rfl rfl, by decide +kernel⟩, gT_at sub_8 58 rfl rfl, gT_at sub_8 59 rfl rfl⟩
theorem mv_Mo_alikeBy : MV m_Mo_alikeBy 2 := ⟨⟨gT_at sub_8 64 rfl rfl, gT_at sub_1 17 rfl rfl, by decide +kernel⟩, gT_at sub_8 63 rfl rfl, gT_of 89 (by decide +kernel) rfl⟩
theorem mv_Mo_fill : MV m_Mo_fill 2 := ⟨⟨gT_at sub_8 68 rfl rfl, gT_at sub_1 17 rfl rfl, by decide +kernel⟩, gT_at sub_8 66 rfl rfl, gT_at sub_8 67 rfl rfl⟩
theorem mv_Mo_isOutlineThere : MV m_Mo_isOutlineThere 1 := ⟨⟨gT_at sub_8 72 rfl rfl, gT_at sub_1 17 rfl rfl, by decide +kernel⟩, gT_at sub_8 71 rfl rfl, gT_of 90 (by decide +kernel) rfl⟩
theorem mv_Mo_isSet : MV m_Mo_isSet 1 := ⟨⟨gT_at sub_8 76 rfl rfl, gT_at sub_1 17 rfl rfl, by decide +kernel⟩, gT_at sub_8 75 rfl rfl, gT_of 91 (by decide +kernel) rfl⟩
theorem mv_Mo_looks : MV m_Mo_looks 3 := ⟨⟨gT_at sub_8 80 rfl rfl, gT_at sub_1 17 rfl rfl, by decide +kernel⟩, gT_at sub_8 79 rfl rfl, gT_of 92 (by decide +kernel) rfl⟩
theorem mv_Mo_readies : MV m_Mo_readies 0 := ⟨⟨gT_at sub_8 84 rfl rfl, gT_at sub_1 17 rfl rfl, by decide +kernel⟩, gT_at sub_8 83 rfl rfl, gT_of 93 (by decide +kernel) rfl⟩
theorem mv_Mo_leastLeft : MV m_Mo_leastLeft 0 := ⟨⟨gT_at sub_8 88 rfl rfl, gT_at sub_1 17 rfl rfl, by decide +kernel⟩, gT_at sub_8 87 rfl rfl, gT_of 94 (by decide +kernel) rfl⟩
theorem mv_Mo_marks : MV m_Mo_marks 3 := ⟨⟨gT_at sub_8 92 rfl rfl, gT_at sub_1 17 rfl rfl, by decide +kernel⟩, gT_at sub_8 91 rfl rfl, gT_of 95 (by decide +kernel) rfl⟩
theorem mv_Mo_liesOn : MV m_Mo_liesOn 2 := ⟨⟨gT_at sub_8 96 rfl rfl, gT_at sub_1 17 rfl rfl, by decide +kernel⟩, gT_at sub_8 95 rfl rfl, gT_of 96 (by decide +kernel) rfl⟩
theorem mv_Mo_isFree : MV m_Mo_isFree 2 := ⟨⟨gT_at sub_8 101 rfl rfl, gT_at sub_1 17 rfl rfl, by decide +kernel⟩, gT_at sub_8 100 rfl rfl, gT_of 97 (by decide +kernel) rfl⟩
theorem mv_Mo_remembers : MV m_Mo_remembers 1 := ⟨⟨gT_at sub_8 105 rfl rfl, gT_at sub_1 17 rfl rfl, by decide +kernel⟩, gT_at sub_8 104 rfl rfl, gT_of 98 (by decide +kernel) rfl⟩
theorem mv_Mo_filled : MV m_Mo_filled 2 := ⟨⟨gT_at sub_8 109 rfl rfl, gT_at sub_1 17 rfl rfl, by decide +kernel⟩, gT_at sub_8 107 rfl rfl, gT_at sub_8 108 rfl rfl⟩
theorem mv_Mo_steps : MV m_Mo_steps 0 := ⟨⟨gT_at sub_8 113 rfl rfl, gT_at sub_1 17 rfl rfl, by decide +kernel⟩, gT_at sub_8 111 rfl rfl, gT_at sub_8 112 rfl rfl⟩
theorem mv_Mo_sets : MV m_Mo_sets 1 := ⟨⟨gT_at sub_8 117 rfl rfl, gT_at sub_1 17 rfl rfl, by decide +kernel⟩, gT_at sub_8 115 rfl rfl, gT_at sub_8 116 rfl rfl⟩
theorem mv_Mo_setsOf : MV m_Mo_setsOf 2 := ⟨⟨gT_at sub_8 121 rfl rfl, gT_at sub_1 17 rfl rfl, by decide +kernel⟩, gT_at sub_8 120 rfl rfl, gT_of 99 (by decide +kernel) rfl⟩
theorem mv_Mo_set : MV m_Mo_set 2 := ⟨⟨gT_at sub_8 125 rfl rfl, gT_at sub_1 17 rfl rfl, by decide +kernel⟩, gT_at sub_8 123 rfl rfl, gT_at sub_8 124 rfl rfl⟩
theorem mv_Mo_needed : MV m_Mo_needed 1 := ⟨⟨gT_at sub_8 129 rfl rfl, gT_at sub_1 17 rfl rfl, by decide +kernel⟩, gT_at sub_8 127 rfl rfl, gT_at sub_8 128 rfl rfl⟩
theorem mv_Mo_cut_2 : MV m_Mo_cut_2 2 := ⟨⟨gT_at sub_8 133 rfl rfl, gT_at sub_1 17 rfl rfl, by decide +kernel⟩, gT_at sub_8 131 rfl rfl, gT_at sub_8 132 rfl rfl⟩
theorem mv_Mo_parts : MV m_Mo_parts 2 := ⟨⟨gT_at sub_8 137 rfl rfl, gT_at sub_1 17 rfl rfl, by decide +kernel⟩, gT_at sub_8 136 rfl rfl, gT_of 100 (by decide +kernel) rfl⟩
theorem mv_Mo_part : MV m_Mo_part 1 := ⟨⟨gT_at sub_8 141 rfl rfl, gT_at sub_1 17 rfl rfl, by decide +kernel⟩, gT_at sub_8 139 rfl rfl, gT_at sub_8 140 rfl rfl⟩
theorem mv_Mo_laid : MV m_Mo_laid 1 := ⟨⟨gT_at sub_8 145 rfl rfl, gT_at sub_1 17 rfl rfl, by decide +kernel⟩, gT_at sub_8 143 rfl rfl, gT_at sub_8 144 rfl rfl⟩
theorem mv_Mo_lay : MV m_Mo_lay 4 := ⟨⟨gT_at sub_8 149 rfl rfl, gT_at sub_1 17 rfl rfl, by decide +kernel⟩, gT_at sub_8 147 rfl rfl, gT_at sub_8 148 rfl rfl⟩
theorem mv_Mo_laysThere : MV m_Mo_laysThere 0 := ⟨⟨gT_at sub_8 153 rfl rfl, gT_at sub_1 17 rfl rfl, by decide +kernel⟩, gT_at sub_8 152 rfl rfl, gT_of 101 (by decide +kernel) rfl⟩
theorem mv_Mo_lift : MV m_Mo_lift 1 := ⟨⟨gT_at sub_8 157 rfl rfl, gT_at sub_1 17 rfl rfl, by decide +kernel⟩, gT_at sub_8 155 rfl rfl, gT_at sub_8 156 rfl rfl⟩
theorem mv_Mo_covers : MV m_Mo_covers 1 := ⟨⟨gT_at sub_8 161 rfl rfl, gT_at sub_1 17 rfl rfl, by decide +kernel⟩, gT_at sub_8 159 rfl rfl, gT_at sub_8 160 rfl rfl⟩
theorem mv_Mo_clashes : MV m_Mo_clashes 0 := ⟨⟨gT_at sub_8 165 rfl rfl, gT_at sub_1 17 rfl rfl, by decide +kernel⟩, gT_at sub_8 163 rfl rfl, gT_at sub_8 164 rfl rfl⟩
theorem mv_Mo_layersAt : MV m_Mo_layersAt 1 := ⟨⟨gT_at sub_8 169 rfl rfl, gT_at sub_1 17 rfl rfl, by decide +kernel⟩, gT_at sub_8 168 rfl rfl, gT_of 102 (by decide +kernel) rfl⟩
theorem mv_Mo_shows : MV m_Mo_shows 0 := ⟨⟨gT_at sub_8 173 rfl rfl, gT_at sub_1 17 rfl rfl, by decide +kernel⟩, gT_at sub_8 171 rfl rfl, gT_at sub_8 172 rfl rfl⟩
theorem mv_Mo_claim : MV m_Mo_claim 3 := ⟨⟨gT_at sub_8 177 rfl rfl, gT_at sub_1 17 rfl rfl, by decide +kernel⟩, gT_at sub_8 175 rfl rfl, gT_at sub_8 176 rfl rfl⟩
theorem mv_Mo_judge : MV m_Mo_judge 2 := ⟨⟨gT_at sub_8 181 rfl rfl, gT_at sub_1 17 rfl rfl, by decide +kernel⟩, gT_at sub_8 180 rfl rfl, gT_of 103 (by decide +kernel) rfl⟩
theorem mv_Mo_annul : MV m_Mo_annul 1 := ⟨⟨gT_at sub_8 186 rfl rfl, gT_at sub_1 17 rfl rfl, by decide +kernel⟩, gT_at sub_8 184 rfl rfl, gT_at sub_8 185 rfl rfl⟩
theorem mv_Mo_isClaim : MV m_Mo_isClaim 1 := ⟨⟨gT_at sub_8 190 rfl rfl, gT_at sub_1 17 rfl rfl, by decide +kernel⟩, gT_at sub_8 189 rfl rfl, gT_of 104 (by decide +kernel) rfl⟩
theorem mv_Mo_verdict : MV m_Mo_verdict 1 := ⟨⟨gT_at sub_8 194 rfl rfl, gT_at sub_1 17 rfl rfl, by decide +kernel⟩, gT_at sub_8 192 rfl rfl, gT_at sub_8 193 rfl rfl⟩
theorem mv_Mo_first : MV m_Mo_first 2 := ⟨⟨gT_at sub_8 198 rfl rfl, gT_at sub_1 17 rfl rfl, by decide +kernel⟩, gT_at sub_8 196 rfl rfl, gT_at sub_8 197 rfl rfl⟩
theorem mv_Mo_isRight : MV m_Mo_isRight 2 := ⟨⟨gT_at sub_8 202 rfl rfl, gT_at sub_1 17 rfl rfl, by decide +kernel⟩, gT_at sub_8 201 rfl rfl, gT_of 105 (by decide +kernel) rfl⟩
theorem mv_Mo_firstOf : MV m_Mo_firstOf 2 := ⟨⟨gT_at sub_8 206 rfl rfl, gT_at sub_1 17 rfl rfl, by decide +kernel⟩, gT_at sub_8 205 rfl rfl, gT_of 106 (by decide +kernel) rfl⟩
theorem mv_Mo_isLike : MV m_Mo_isLike 2 := ⟨⟨gT_at sub_8 210 rfl rfl, gT_at sub_1 17 rfl rfl, by decide +kernel⟩, gT_at sub_8 209 rfl rfl, gT_of 107 (by decide +kernel) rfl⟩
theorem mv_Mo_points : MV m_Mo_points 2 := ⟨⟨gT_at sub_8 214 rfl rfl, gT_at sub_1 17 rfl rfl, by decide +kernel⟩, gT_at sub_8 212 rfl rfl, gT_at sub_8 213 rfl rfl⟩
theorem mv_Mo_count : MV m_Mo_count 1 := ⟨⟨gT_at sub_8 218 rfl rfl, gT_at sub_1 17 rfl rfl, by decide +kernel⟩, gT_at sub_8 216 rfl rfl, gT_at sub_8 217 rfl rfl⟩
theorem fl_Tokens_11 : FL "QuarterBoards$Tokens" 11 10 0 true := ⟨_, ck_Tokens, by decide, rfl, rfl, gT_at sub_1 82 rfl rfl⟩
theorem fl_Tokens_15 : FL "QuarterBoards$Tokens" 15 10 1 true := ⟨_, ck_Tokens, by decide, rfl, rfl, gT_at sub_1 83 rfl rfl⟩
theorem fl_Tokens_18 : FL "QuarterBoards$Tokens" 18 10 2 true := ⟨_, ck_Tokens, by decide, rfl, rfl, gT_at sub_1 84 rfl rfl⟩
theorem fl_Tokens_22 : FL "QuarterBoards$Tokens" 22 10 3 false := ⟨_, ck_Tokens, by decide, rfl, rfl, gT_at sub_1 85 rfl rfl⟩
theorem fl_Meaning_35 : FL "QuarterBoards$Meaning" 35 10 3 false := ⟨_, ck_Tokens, by decide, rfl, rfl, gT_at sub_1 86 rfl rfl⟩
theorem fl_Syntax_27 : FL "QuarterBoards$Syntax" 27 10 3 false := ⟨_, ck_Tokens, by decide, rfl, rfl, gT_at sub_1 87 rfl rfl⟩
theorem fl_Builder_56 : FL "QuarterBoards$Builder" 56 10 3 false := ⟨_, ck_Tokens, by decide, rfl, rfl, gT_at sub_1 88 rfl rfl⟩
theorem fl_Tokens_26 : FL "QuarterBoards$Tokens" 26 10 4 false := ⟨_, ck_Tokens, by decide, rfl, rfl, gT_at sub_1 89 rfl rfl⟩
theorem fl_Tokens_29 : FL "QuarterBoards$Tokens" 29 10 5 false := ⟨_, ck_Tokens, by decide, rfl, rfl, gT_at sub_1 90 rfl rfl⟩
theorem fl_Builder_69 : FL "QuarterBoards$Builder" 69 10 5 false := ⟨_, ck_Tokens, by decide, rfl, rfl, gT_at sub_1 91 rfl rfl⟩
theorem fl_Q_121 : FL "QuarterBoards" 121 10 5 false := ⟨_, ck_Tokens, by decide, rfl, rfl, gT_at sub_1 92 rfl rfl⟩
theorem fl_Tokens_32 : FL "QuarterBoards$Tokens" 32 10 6 false := ⟨_, ck_Tokens, by decide, rfl, rfl, gT_at sub_1 93 rfl rfl⟩
theorem fl_Q_128 : FL "QuarterBoards" 128 10 6 false := ⟨_, ck_Tokens, by decide, rfl, rfl, gT_at sub_1 94 rfl rfl⟩
theorem fl_Tokens_35 : FL "QuarterBoards$Tokens" 35 10 7 true := ⟨_, ck_Tokens, by decide, rfl, rfl, gT_at sub_1 95 rfl rfl⟩
theorem fl_Syntax_11 : FL "QuarterBoards$Syntax" 11 8 0 false := ⟨_, ck_Syntax, by decide, rfl, rfl, gT_at sub_1 122 rfl rfl⟩
theorem fl_Syntax_15 : FL "QuarterBoards$Syntax" 15 8 1 false := ⟨_, ck_Syntax, by decide, rfl, rfl, gT_at sub_1 123 rfl rfl⟩
theorem fl_Syntax_18 : FL "QuarterBoards$Syntax" 18 8 2 false := ⟨_, ck_Syntax, by decide, rfl, rfl, gT_at sub_1 124 rfl rfl⟩
theorem fl_Syntax_21 : FL "QuarterBoards$Syntax" 21 8 3 false := ⟨_, ck_Syntax, by decide, rfl, rfl, gT_at sub_1 125 rfl rfl⟩
theorem fl_Syntax_24 : FL "QuarterBoards$Syntax" 24 8 4 false := ⟨_, ck_Syntax, by decide, rfl, rfl, gT_at sub_1 126 rfl rfl⟩
theorem fl_Meaning_9 : FL "QuarterBoards$Meaning" 9 5 0 true := ⟨_, ck_Meaning, by decide, rfl, rfl, gT_at sub_1 144 rfl rfl⟩
theorem fl_Meaning_15 : FL "QuarterBoards$Meaning" 15 5 1 false := ⟨_, ck_Meaning, by decide, rfl, rfl, gT_at sub_1 145 rfl rfl⟩
theorem fl_Meaning_19 : FL "QuarterBoards$Meaning" 19 5 2 false := ⟨_, ck_Meaning, by decide, rfl, rfl, gT_at sub_1 146 rfl rfl⟩
theorem fl_Meaning_23 : FL "QuarterBoards$Meaning" 23 5 3 false := ⟨_, ck_Meaning, by decide, rfl, rfl, gT_at sub_1 147 rfl rfl⟩
theorem fl_Meaning_26 : FL "QuarterBoards$Meaning" 26 5 4 false := ⟨_, ck_Meaning, by decide, rfl, rfl, gT_at sub_1 148 rfl rfl⟩
theorem fl_Meaning_29 : FL "QuarterBoards$Meaning" 29 5 5 false := ⟨_, ck_Meaning, by decide, rfl, rfl, gT_at sub_1 149 rfl rfl⟩
theorem fl_Meaning_32 : FL "QuarterBoards$Meaning" 32 5 6 false := ⟨_, ck_Meaning, by decide, rfl, rfl, gT_at sub_1 150 rfl rfl⟩
theorem fl_Shape_9 : FL "QuarterBoards$Shape" 9 7 0 true := ⟨_, ck_Shape, by decide, rfl, rfl, gT_at sub_1 179 rfl rfl⟩
theorem fl_Filler_144 : FL "QuarterBoards$Filler" 144 7 0 true := ⟨_, ck_Shape, by decide, rfl, rfl, gT_at sub_1 180 rfl rfl⟩
theorem fl_Builder_13 : FL "QuarterBoards$Builder" 13 1 0 true := ⟨_, ck_Builder, by decide, rfl, rfl, gT_at sub_1 185 rfl rfl⟩
theorem fl_Q_295 : FL "QuarterBoards" 295 1 0 true := ⟨_, ck_Builder, by decide, rfl, rfl, gT_at sub_1 186 rfl rfl⟩
theorem fl_Builder_17 : FL "QuarterBoards$Builder" 17 1 1 true := ⟨_, ck_Builder, by decide, rfl, rfl, gT_at sub_1 187 rfl rfl⟩
theorem fl_Q_291 : FL "QuarterBoards" 291 1 1 true := ⟨_, ck_Builder, by decide, rfl, rfl, gT_at sub_1 188 rfl rfl⟩
theorem fl_Builder_21 : FL "QuarterBoards$Builder" 21 1 2 false := ⟨_, ck_Builder, by decide, rfl, rfl, gT_at sub_1 189 rfl rfl⟩
theorem fl_Q_288 : FL "QuarterBoards" 288 1 2 false := ⟨_, ck_Builder, by decide, rfl, rfl, gT_at sub_1 190 rfl rfl⟩
theorem fl_Builder_25 : FL "QuarterBoards$Builder" 25 1 3 true := ⟨_, ck_Builder, by decide, rfl, rfl, gT_at sub_1 191 rfl rfl⟩
theorem fl_Builder_29 : FL "QuarterBoards$Builder" 29 1 4 true := ⟨_, ck_Builder, by decide, rfl, rfl, gT_at sub_1 192 rfl rfl⟩
theorem fl_Builder_32 : FL "QuarterBoards$Builder" 32 1 5 true := ⟨_, ck_Builder, by decide, rfl, rfl, gT_at sub_1 193 rfl rfl⟩
theorem fl_Builder_36 : FL "QuarterBoards$Builder" 36 1 6 true := ⟨_, ck_Builder, by decide, rfl, rfl, gT_at sub_1 194 rfl rfl⟩
theorem fl_Builder_42 : FL "QuarterBoards$Builder" 42 1 7 true := ⟨_, ck_Builder, by decide, rfl, rfl, gT_at sub_1 195 rfl rfl⟩
theorem fl_Builder_46 : FL "QuarterBoards$Builder" 46 1 8 false := ⟨_, ck_Builder, by decide, rfl, rfl, gT_at sub_1 196 rfl rfl⟩
theorem fl_Builder_52 : FL "QuarterBoards$Builder" 52 1 9 true := ⟨_, ck_Builder, by decide, rfl, rfl, gT_at sub_1 197 rfl rfl⟩
theorem fl_Builder_49 : FL "QuarterBoards$Builder" 49 1 10 false := ⟨_, ck_Builder, by decide, rfl, rfl, gT_at sub_1 198 rfl rfl⟩
theorem fl_Measure_12 : FL "QuarterBoards$Measure" 12 6 0 true := ⟨_, ck_Measure, by decide, rfl, rfl, gT_at sub_1 230 rfl rfl⟩
theorem fl_Measure_18 : FL "QuarterBoards$Measure" 18 6 1 true := ⟨_, ck_Measure, by decide, rfl, rfl, gT_at sub_1 231 rfl rfl⟩
theorem fl_Measure_22 : FL "QuarterBoards$Measure" 22 6 2 false := ⟨_, ck_Measure, by decide, rfl, rfl, gT_at sub_1 232 rfl rfl⟩
theorem fl_Filler_11 : FL "QuarterBoards$Filler" 11 3 0 false := ⟨_, ck_Filler, by decide, rfl, rfl, gT_at sub_2 10 rfl rfl⟩
theorem fl_Q_204 : FL "QuarterBoards" 204 3 0 false := ⟨_, ck_Filler, by decide, rfl, rfl, gT_at sub_2 11 rfl rfl⟩
theorem fl_Filler_53 : FL "QuarterBoards$Filler" 53 3 1 true := ⟨_, ck_Filler, by decide, rfl, rfl, gT_at sub_2 12 rfl rfl⟩
theorem fl_Filler_18 : FL "QuarterBoards$Filler" 18 3 2 true := ⟨_, ck_Filler, by decide, rfl, rfl, gT_at sub_2 13 rfl rfl⟩
theorem fl_Filler_22 : FL "QuarterBoards$Filler" 22 3 3 false := ⟨_, ck_Filler, by decide, rfl, rfl, gT_at sub_2 14 rfl rfl⟩
theorem fl_Filler_26 : FL "QuarterBoards$Filler" 26 3 4 false := ⟨_, ck_Filler, by decide, rfl, rfl, gT_at sub_2 15 rfl rfl⟩
theorem fl_Filler_29 : FL "QuarterBoards$Filler" 29 3 5 false := ⟨_, ck_Filler, by decide, rfl, rfl, gT_at sub_2 16 rfl rfl⟩
theorem fl_Filler_32 : FL "QuarterBoards$Filler" 32 3 6 false := ⟨_, ck_Filler, by decide, rfl, rfl, gT_at sub_2 17 rfl rfl⟩
theorem fl_Filler_35 : FL "QuarterBoards$Filler" 35 3 7 true := ⟨_, ck_Filler, by decide, rfl, rfl, gT_at sub_2 18 rfl rfl⟩
theorem fl_Filler_39 : FL "QuarterBoards$Filler" 39 3 8 true := ⟨_, ck_Filler, by decide, rfl, rfl, gT_at sub_2 19 rfl rfl⟩
theorem fl_Filler_42 : FL "QuarterBoards$Filler" 42 3 9 false := ⟨_, ck_Filler, by decide, rfl, rfl, gT_at sub_2 20 rfl rfl⟩
theorem fl_Filler_45 : FL "QuarterBoards$Filler" 45 3 10 true := ⟨_, ck_Filler, by decide, rfl, rfl, gT_at sub_2 21 rfl rfl⟩
theorem fl_Filler_50 : FL "QuarterBoards$Filler" 50 3 11 true := ⟨_, ck_Filler, by decide, rfl, rfl, gT_at sub_2 22 rfl rfl⟩
theorem fl_Form_12 : FL "QuarterBoards$Form" 12 4 0 true := ⟨_, ck_Form, by decide, rfl, rfl, gT_at sub_2 64 rfl rfl⟩
theorem fl_Q_143 : FL "QuarterBoards" 143 4 0 true := ⟨_, ck_Form, by decide, rfl, rfl, gT_at sub_2 65 rfl rfl⟩
theorem fl_Filler_82 : FL "QuarterBoards$Filler" 82 4 0 true := ⟨_, ck_Form, by decide, rfl, rfl, gT_at sub_2 66 rfl rfl⟩
theorem fl_Form_18 : FL "QuarterBoards$Form" 18 4 1 true := ⟨_, ck_Form, by decide, rfl, rfl, gT_at sub_2 67 rfl rfl⟩
theorem fl_Cutter_73 : FL "QuarterBoards$Cutter" 73 4 1 true := ⟨_, ck_Form, by decide, rfl, rfl, gT_at sub_2 68 rfl rfl⟩
theorem fl_Table_36 : FL "QuarterBoards$Table" 36 4 1 true := ⟨_, ck_Form, by decide, rfl, rfl, gT_at sub_2 69 rfl rfl⟩
theorem fl_Filler_125 : FL "QuarterBoards$Filler" 125 4 1 true := ⟨_, ck_Form, by decide, rfl, rfl, gT_at sub_2 70 rfl rfl⟩
theorem fl_Form_22 : FL "QuarterBoards$Form" 22 4 2 true := ⟨_, ck_Form, by decide, rfl, rfl, gT_at sub_2 71 rfl rfl⟩
theorem fl_Q_168 : FL "QuarterBoards" 168 4 2 true := ⟨_, ck_Form, by decide, rfl, rfl, gT_at sub_2 72 rfl rfl⟩
theorem fl_Filler_114 : FL "QuarterBoards$Filler" 114 4 2 true := ⟨_, ck_Form, by decide, rfl, rfl, gT_at sub_2 73 rfl rfl⟩
theorem fl_Form_26 : FL "QuarterBoards$Form" 26 4 3 true := ⟨_, ck_Form, by decide, rfl, rfl, gT_at sub_2 74 rfl rfl⟩
theorem fl_Form_29 : FL "QuarterBoards$Form" 29 4 4 true := ⟨_, ck_Form, by decide, rfl, rfl, gT_at sub_2 75 rfl rfl⟩
theorem fl_Filler_129 : FL "QuarterBoards$Filler" 129 4 4 true := ⟨_, ck_Form, by decide, rfl, rfl, gT_at sub_2 76 rfl rfl⟩
theorem fl_Form_32 : FL "QuarterBoards$Form" 32 4 5 true := ⟨_, ck_Form, by decide, rfl, rfl, gT_at sub_2 77 rfl rfl⟩
theorem fl_Cutter_69 : FL "QuarterBoards$Cutter" 69 4 5 true := ⟨_, ck_Form, by decide, rfl, rfl, gT_at sub_2 78 rfl rfl⟩
theorem fl_Table_45 : FL "QuarterBoards$Table" 45 4 5 true := ⟨_, ck_Form, by decide, rfl, rfl, gT_at sub_2 79 rfl rfl⟩
theorem fl_Filler_117 : FL "QuarterBoards$Filler" 117 4 5 true := ⟨_, ck_Form, by decide, rfl, rfl, gT_at sub_2 80 rfl rfl⟩
theorem fl_Form_35 : FL "QuarterBoards$Form" 35 4 6 false := ⟨_, ck_Form, by decide, rfl, rfl, gT_at sub_2 81 rfl rfl⟩
theorem fl_Cutter_66 : FL "QuarterBoards$Cutter" 66 4 6 false := ⟨_, ck_Form, by decide, rfl, rfl, gT_at sub_2 82 rfl rfl⟩
theorem fl_Q_136 : FL "QuarterBoards" 136 4 6 false := ⟨_, ck_Form, by decide, rfl, rfl, gT_at sub_2 83 rfl rfl⟩
theorem fl_Filler_77 : FL "QuarterBoards$Filler" 77 4 6 false := ⟨_, ck_Form, by decide, rfl, rfl, gT_at sub_2 84 rfl rfl⟩
theorem fl_Cutter_9 : FL "QuarterBoards$Cutter" 9 2 0 false := ⟨_, ck_Cutter, by decide, rfl, rfl, gT_at sub_2 100 rfl rfl⟩
theorem fl_Cutter_15 : FL "QuarterBoards$Cutter" 15 2 1 false := ⟨_, ck_Cutter, by decide, rfl, rfl, gT_at sub_2 101 rfl rfl⟩
theorem fl_Cutter_18 : FL "QuarterBoards$Cutter" 18 2 2 false := ⟨_, ck_Cutter, by decide, rfl, rfl, gT_at sub_2 102 rfl rfl⟩
theorem fl_Cutter_21 : FL "QuarterBoards$Cutter" 21 2 3 false := ⟨_, ck_Cutter, by decide, rfl, rfl, gT_at sub_2 103 rfl rfl⟩
theorem fl_Cutter_27 : FL "QuarterBoards$Cutter" 27 2 4 true := ⟨_, ck_Cutter, by decide, rfl, rfl, gT_at sub_2 104 rfl rfl⟩
theorem fl_Cutter_31 : FL "QuarterBoards$Cutter" 31 2 5 true := ⟨_, ck_Cutter, by decide, rfl, rfl, gT_at sub_2 105 rfl rfl⟩
theorem fl_Cutter_34 : FL "QuarterBoards$Cutter" 34 2 6 true := ⟨_, ck_Cutter, by decide, rfl, rfl, gT_at sub_2 106 rfl rfl⟩
theorem fl_Cutter_37 : FL "QuarterBoards$Cutter" 37 2 7 true := ⟨_, ck_Cutter, by decide, rfl, rfl, gT_at sub_2 107 rfl rfl⟩
theorem fl_Cutter_40 : FL "QuarterBoards$Cutter" 40 2 8 true := ⟨_, ck_Cutter, by decide, rfl, rfl, gT_at sub_2 108 rfl rfl⟩
theorem fl_Cutter_46 : FL "QuarterBoards$Cutter" 46 2 9 true := ⟨_, ck_Cutter, by decide, rfl, rfl, gT_at sub_2 109 rfl rfl⟩
theorem fl_Table_11 : FL "QuarterBoards$Table" 11 9 0 true := ⟨_, ck_Table, by decide, rfl, rfl, gT_at sub_2 139 rfl rfl⟩
theorem fl_Table_17 : FL "QuarterBoards$Table" 17 9 1 true := ⟨_, ck_Table, by decide, rfl, rfl, gT_at sub_2 140 rfl rfl⟩
theorem fl_Table_22 : FL "QuarterBoards$Table" 22 9 2 true := ⟨_, ck_Table, by decide, rfl, rfl, gT_at sub_2 141 rfl rfl⟩
theorem fl_Table_26 : FL "QuarterBoards$Table" 26 9 3 true := ⟨_, ck_Table, by decide, rfl, rfl, gT_at sub_2 142 rfl rfl⟩
theorem fl_Table_29 : FL "QuarterBoards$Table" 29 9 4 true := ⟨_, ck_Table, by decide, rfl, rfl, gT_at sub_2 143 rfl rfl⟩
theorem fl_Book_9 : FL "QuarterBoards$Book" 9 0 0 false := ⟨_, ck_Book, by decide, rfl, rfl, gT_at sub_2 162 rfl rfl⟩
theorem fl_Q_275 : FL "QuarterBoards" 275 0 0 false := ⟨_, ck_Book, by decide, rfl, rfl, gT_at sub_2 163 rfl rfl⟩
theorem fl_Book_15 : FL "QuarterBoards$Book" 15 0 1 true := ⟨_, ck_Book, by decide, rfl, rfl, gT_at sub_2 164 rfl rfl⟩
theorem fl_Q_272 : FL "QuarterBoards" 272 0 1 true := ⟨_, ck_Book, by decide, rfl, rfl, gT_at sub_2 165 rfl rfl⟩
theorem fl_Book_19 : FL "QuarterBoards$Book" 19 0 2 true := ⟨_, ck_Book, by decide, rfl, rfl, gT_at sub_2 166 rfl rfl⟩
theorem fl_Book_22 : FL "QuarterBoards$Book" 22 0 3 true := ⟨_, ck_Book, by decide, rfl, rfl, gT_at sub_2 167 rfl rfl⟩
theorem fl_Book_25 : FL "QuarterBoards$Book" 25 0 4 true := ⟨_, ck_Book, by decide, rfl, rfl, gT_at sub_2 168 rfl rfl⟩
theorem fl_Book_30 : FL "QuarterBoards$Book" 30 0 5 true := ⟨_, ck_Book, by decide, rfl, rfl, gT_at sub_2 169 rfl rfl⟩
theorem fl_Book_33 : FL "QuarterBoards$Book" 33 0 6 true := ⟨_, ck_Book, by decide, rfl, rfl, gT_at sub_2 170 rfl rfl⟩
theorem fl_Q_9 : FL "QuarterBoards" 9 11 0 true := ⟨_, ck_Q, by decide, rfl, rfl, gT_at sub_2 189 rfl rfl⟩
theorem fl_Q_13 : FL "QuarterBoards" 13 11 1 false := ⟨_, ck_Q, by decide, rfl, rfl, gT_at sub_2 190 rfl rfl⟩
theorem fl_Q_17 : FL "QuarterBoards" 17 11 2 false := ⟨_, ck_Q, by decide, rfl, rfl, gT_at sub_2 191 rfl rfl⟩
theorem fl_Q_22 : FL "QuarterBoards" 22 11 3 true := ⟨_, ck_Q, by decide, rfl, rfl, gT_at sub_2 192 rfl rfl⟩
theorem fl_Q_26 : FL "QuarterBoards" 26 11 4 true := ⟨_, ck_Q, by decide, rfl, rfl, gT_at sub_2 193 rfl rfl⟩
theorem fl_Q_29 : FL "QuarterBoards" 29 11 5 false := ⟨_, ck_Q, by decide, rfl, rfl, gT_at sub_2 194 rfl rfl⟩
theorem fl_Q_32 : FL "QuarterBoards" 32 11 6 false := ⟨_, ck_Q, by decide, rfl, rfl, gT_at sub_2 195 rfl rfl⟩
theorem fl_Q_38 : FL "QuarterBoards" 38 11 7 true := ⟨_, ck_Q, by decide, rfl, rfl, gT_at sub_2 196 rfl rfl⟩
theorem fl_Q_45 : FL "QuarterBoards" 45 11 8 true := ⟨_, ck_Q, by decide, rfl, rfl, gT_at sub_2 197 rfl rfl⟩
theorem fl_Q_52 : FL "QuarterBoards" 52 11 9 true := ⟨_, ck_Q, by decide, rfl, rfl, gT_at sub_2 198 rfl rfl⟩
theorem fl_Q_61 : FL "QuarterBoards" 61 11 10 true := ⟨_, ck_Q, by decide, rfl, rfl, gT_at sub_2 199 rfl rfl⟩
theorem fl_Q_68 : FL "QuarterBoards" 68 11 11 true := ⟨_, ck_Q, by decide, rfl, rfl, gT_at sub_2 200 rfl rfl⟩
theorem fl_Q_77 : FL "QuarterBoards" 77 11 12 true := ⟨_, ck_Q, by decide, rfl, rfl, gT_at sub_2 201 rfl rfl⟩
theorem fl_Q_84 : FL "QuarterBoards" 84 11 13 true := ⟨_, ck_Q, by decide, rfl, rfl, gT_at sub_2 202 rfl rfl⟩
theorem fl_Q_91 : FL "QuarterBoards" 91 11 14 true := ⟨_, ck_Q, by decide, rfl, rfl, gT_at sub_2 203 rfl rfl⟩
theorem fl_Q_98 : FL "QuarterBoards" 98 11 15 true := ⟨_, ck_Q, by decide, rfl, rfl, gT_at sub_2 204 rfl rfl⟩
theorem fl_Q_105 : FL "QuarterBoards" 105 11 16 true := ⟨_, ck_Q, by decide, rfl, rfl, gT_at sub_2 205 rfl rfl⟩
theorem fl_Mo_13 : FL "QuarterBoardsModel" 13 12 1 true := ⟨_, ck_Mo, by decide, rfl, rfl, gT_at sub_6 93 rfl rfl⟩
theorem fl_Mo_175 : FL "QuarterBoardsModel" 175 12 2 false := ⟨_, ck_Mo, by decide, rfl, rfl, gT_at sub_6 94 rfl rfl⟩
theorem fl_Mo_17 : FL "QuarterBoardsModel" 17 12 3 true := ⟨_, ck_Mo, by decide, rfl, rfl, gT_at sub_6 95 rfl rfl⟩
theorem fl_Mo_182 : FL "QuarterBoardsModel" 182 12 4 false := ⟨_, ck_Mo, by decide, rfl, rfl, gT_at sub_6 96 rfl rfl⟩
theorem fl_Mo_20 : FL "QuarterBoardsModel" 20 12 5 true := ⟨_, ck_Mo, by decide, rfl, rfl, gT_at sub_6 97 rfl rfl⟩
theorem fl_Mo_24 : FL "QuarterBoardsModel" 24 12 6 true := ⟨_, ck_Mo, by decide, rfl, rfl, gT_at sub_6 98 rfl rfl⟩
theorem fl_Mo_27 : FL "QuarterBoardsModel" 27 12 7 true := ⟨_, ck_Mo, by decide, rfl, rfl, gT_at sub_6 99 rfl rfl⟩
theorem fl_Mo_30 : FL "QuarterBoardsModel" 30 12 8 true := ⟨_, ck_Mo, by decide, rfl, rfl, gT_at sub_6 100 rfl rfl⟩
theorem fl_Mo_34 : FL "QuarterBoardsModel" 34 12 9 true := ⟨_, ck_Mo, by decide, rfl, rfl, gT_at sub_6 101 rfl rfl⟩
theorem fl_Mo_191 : FL "QuarterBoardsModel" 191 12 10 false := ⟨_, ck_Mo, by decide, rfl, rfl, gT_at sub_6 102 rfl rfl⟩
theorem fl_Mo_215 : FL "QuarterBoardsModel" 215 12 11 false := ⟨_, ck_Mo, by decide, rfl, rfl, gT_at sub_6 103 rfl rfl⟩
theorem fl_Mo_239 : FL "QuarterBoardsModel" 239 12 12 false := ⟨_, ck_Mo, by decide, rfl, rfl, gT_at sub_6 104 rfl rfl⟩
theorem fl_Mo_212 : FL "QuarterBoardsModel" 212 12 13 false := ⟨_, ck_Mo, by decide, rfl, rfl, gT_at sub_6 105 rfl rfl⟩
theorem fl_Mo_218 : FL "QuarterBoardsModel" 218 12 14 false := ⟨_, ck_Mo, by decide, rfl, rfl, gT_at sub_6 106 rfl rfl⟩
theorem fl_Mo_221 : FL "QuarterBoardsModel" 221 12 15 false := ⟨_, ck_Mo, by decide, rfl, rfl, gT_at sub_6 107 rfl rfl⟩
theorem fl_Mo_224 : FL "QuarterBoardsModel" 224 12 16 false := ⟨_, ck_Mo, by decide, rfl, rfl, gT_at sub_6 108 rfl rfl⟩
theorem fl_Mo_37 : FL "QuarterBoardsModel" 37 12 17 false := ⟨_, ck_Mo, by decide, rfl, rfl, gT_at sub_6 109 rfl rfl⟩
theorem fl_Mo_40 : FL "QuarterBoardsModel" 40 12 18 true := ⟨_, ck_Mo, by decide, rfl, rfl, gT_at sub_6 110 rfl rfl⟩
theorem fl_Mo_242 : FL "QuarterBoardsModel" 242 12 19 false := ⟨_, ck_Mo, by decide, rfl, rfl, gT_at sub_6 111 rfl rfl⟩
theorem fl_Mo_245 : FL "QuarterBoardsModel" 245 12 20 false := ⟨_, ck_Mo, by decide, rfl, rfl, gT_at sub_6 112 rfl rfl⟩
theorem fl_Mo_44 : FL "QuarterBoardsModel" 44 12 21 true := ⟨_, ck_Mo, by decide, rfl, rfl, gT_at sub_6 113 rfl rfl⟩
theorem fl_Mo_47 : FL "QuarterBoardsModel" 47 12 22 true := ⟨_, ck_Mo, by decide, rfl, rfl, gT_at sub_6 114 rfl rfl⟩
theorem fl_Mo_248 : FL "QuarterBoardsModel" 248 12 23 false := ⟨_, ck_Mo, by decide, rfl, rfl, gT_at sub_6 115 rfl rfl⟩
theorem fl_Mo_50 : FL "QuarterBoardsModel" 50 12 24 true := ⟨_, ck_Mo, by decide, rfl, rfl, gT_at sub_6 116 rfl rfl⟩
theorem fl_Mo_53 : FL "QuarterBoardsModel" 53 12 25 true := ⟨_, ck_Mo, by decide, rfl, rfl, gT_at sub_6 117 rfl rfl⟩
theorem fl_Mo_56 : FL "QuarterBoardsModel" 56 12 26 true := ⟨_, ck_Mo, by decide, rfl, rfl, gT_at sub_6 118 rfl rfl⟩
theorem fl_Mo_59 : FL "QuarterBoardsModel" 59 12 27 true := ⟨_, ck_Mo, by decide, rfl, rfl, gT_at sub_6 119 rfl rfl⟩
theorem fl_Mo_62 : FL "QuarterBoardsModel" 62 12 28 true := ⟨_, ck_Mo, by decide, rfl, rfl, gT_at sub_6 120 rfl rfl⟩
theorem fl_Mo_251 : FL "QuarterBoardsModel" 251 12 29 false := ⟨_, ck_Mo, by decide, rfl, rfl, gT_at sub_6 121 rfl rfl⟩
theorem fl_Mo_65 : FL "QuarterBoardsModel" 65 12 30 true := ⟨_, ck_Mo, by decide, rfl, rfl, gT_at sub_6 122 rfl rfl⟩
theorem fl_Mo_68 : FL "QuarterBoardsModel" 68 12 31 true := ⟨_, ck_Mo, by decide, rfl, rfl, gT_at sub_6 123 rfl rfl⟩
theorem fl_Mo_71 : FL "QuarterBoardsModel" 71 12 32 true := ⟨_, ck_Mo, by decide, rfl, rfl, gT_at sub_6 124 rfl rfl⟩
theorem fl_Mo_74 : FL "QuarterBoardsModel" 74 12 33 true := ⟨_, ck_Mo, by decide, rfl, rfl, gT_at sub_6 125 rfl rfl⟩
theorem fl_Mo_77 : FL "QuarterBoardsModel" 77 12 34 true := ⟨_, ck_Mo, by decide, rfl, rfl, gT_at sub_6 126 rfl rfl⟩
theorem fl_Mo_80 : FL "QuarterBoardsModel" 80 12 35 true := ⟨_, ck_Mo, by decide, rfl, rfl, gT_at sub_6 127 rfl rfl⟩
theorem fl_Mo_83 : FL "QuarterBoardsModel" 83 12 36 true := ⟨_, ck_Mo, by decide, rfl, rfl, gT_at sub_6 128 rfl rfl⟩
theorem fl_Mo_86 : FL "QuarterBoardsModel" 86 12 37 true := ⟨_, ck_Mo, by decide, rfl, rfl, gT_at sub_6 129 rfl rfl⟩
theorem fl_Mo_89 : FL "QuarterBoardsModel" 89 12 38 true := ⟨_, ck_Mo, by decide, rfl, rfl, gT_at sub_6 130 rfl rfl⟩
theorem fl_Mo_92 : FL "QuarterBoardsModel" 92 12 39 true := ⟨_, ck_Mo, by decide, rfl, rfl, gT_at sub_6 131 rfl rfl⟩
theorem fl_Mo_273 : FL "QuarterBoardsModel" 273 12 40 false := ⟨_, ck_Mo, by decide, rfl, rfl, gT_at sub_6 132 rfl rfl⟩
theorem fl_Mo_95 : FL "QuarterBoardsModel" 95 12 41 true := ⟨_, ck_Mo, by decide, rfl, rfl, gT_at sub_6 133 rfl rfl⟩
theorem fl_Mo_98 : FL "QuarterBoardsModel" 98 12 42 true := ⟨_, ck_Mo, by decide, rfl, rfl, gT_at sub_6 134 rfl rfl⟩
theorem fl_Mo_335 : FL "QuarterBoardsModel" 335 12 43 false := ⟨_, ck_Mo, by decide, rfl, rfl, gT_at sub_6 135 rfl rfl⟩
theorem fl_Mo_101 : FL "QuarterBoardsModel" 101 12 44 true := ⟨_, ck_Mo, by decide, rfl, rfl, gT_at sub_6 136 rfl rfl⟩
theorem fl_Mo_104 : FL "QuarterBoardsModel" 104 12 45 true := ⟨_, ck_Mo, by decide, rfl, rfl, gT_at sub_6 137 rfl rfl⟩
theorem fl_Mo_107 : FL "QuarterBoardsModel" 107 12 46 true := ⟨_, ck_Mo, by decide, rfl, rfl, gT_at sub_6 138 rfl rfl⟩
theorem fl_Mo_110 : FL "QuarterBoardsModel" 110 12 47 true := ⟨_, ck_Mo, by decide, rfl, rfl, gT_at sub_6 139 rfl rfl⟩
theorem fl_Mo_367 : FL "QuarterBoardsModel" 367 12 48 false := ⟨_, ck_Mo, by decide, rfl, rfl, gT_at sub_6 140 rfl rfl⟩
theorem fl_Mo_113 : FL "QuarterBoardsModel" 113 12 49 true := ⟨_, ck_Mo, by decide, rfl, rfl, gT_at sub_6 141 rfl rfl⟩
theorem fl_Mo_411 : FL "QuarterBoardsModel" 411 12 50 false := ⟨_, ck_Mo, by decide, rfl, rfl, gT_at sub_6 142 rfl rfl⟩
theorem fl_Mo_374 : FL "QuarterBoardsModel" 374 12 51 false := ⟨_, ck_Mo, by decide, rfl, rfl, gT_at sub_6 143 rfl rfl⟩
theorem fl_Mo_377 : FL "QuarterBoardsModel" 377 12 52 false := ⟨_, ck_Mo, by decide, rfl, rfl, gT_at sub_6 144 rfl rfl⟩
theorem fl_Mo_380 : FL "QuarterBoardsModel" 380 12 53 false := ⟨_, ck_Mo, by decide, rfl, rfl, gT_at sub_6 145 rfl rfl⟩
theorem fl_Mo_116 : FL "QuarterBoardsModel" 116 12 54 true := ⟨_, ck_Mo, by decide, rfl, rfl, gT_at sub_6 146 rfl rfl⟩
theorem fl_Mo_119 : FL "QuarterBoardsModel" 119 12 55 true := ⟨_, ck_Mo, by decide, rfl, rfl, gT_at sub_6 147 rfl rfl⟩
theorem fl_Mo_122 : FL "QuarterBoardsModel" 122 12 56 true := ⟨_, ck_Mo, by decide, rfl, rfl, gT_at sub_6 148 rfl rfl⟩
theorem fl_Mo_125 : FL "QuarterBoardsModel" 125 12 57 true := ⟨_, ck_Mo, by decide, rfl, rfl, gT_at sub_6 149 rfl rfl⟩
theorem fl_Mo_399 : FL "QuarterBoardsModel" 399 12 58 false := ⟨_, ck_Mo, by decide, rfl, rfl, gT_at sub_6 150 rfl rfl⟩
theorem fl_Mo_128 : FL "QuarterBoardsModel" 128 12 59 true := ⟨_, ck_Mo, by decide, rfl, rfl, gT_at sub_6 151 rfl rfl⟩
theorem fl_Mo_131 : FL "QuarterBoardsModel" 131 12 60 true := ⟨_, ck_Mo, by decide, rfl, rfl, gT_at sub_6 152 rfl rfl⟩
theorem fl_Mo_134 : FL "QuarterBoardsModel" 134 12 61 true := ⟨_, ck_Mo, by decide, rfl, rfl, gT_at sub_6 153 rfl rfl⟩
theorem fl_Mo_137 : FL "QuarterBoardsModel" 137 12 62 true := ⟨_, ck_Mo, by decide, rfl, rfl, gT_at sub_6 154 rfl rfl⟩
theorem fl_Mo_140 : FL "QuarterBoardsModel" 140 12 63 true := ⟨_, ck_Mo, by decide, rfl, rfl, gT_at sub_6 155 rfl rfl⟩
theorem fl_Mo_143 : FL "QuarterBoardsModel" 143 12 64 true := ⟨_, ck_Mo, by decide, rfl, rfl, gT_at sub_6 156 rfl rfl⟩
theorem fl_Mo_417 : FL "QuarterBoardsModel" 417 12 65 false := ⟨_, ck_Mo, by decide, rfl, rfl, gT_at sub_6 157 rfl rfl⟩
theorem fl_Mo_414 : FL "QuarterBoardsModel" 414 12 66 false := ⟨_, ck_Mo, by decide, rfl, rfl, gT_at sub_6 158 rfl rfl⟩
theorem fl_Mo_423 : FL "QuarterBoardsModel" 423 12 67 false := ⟨_, ck_Mo, by decide, rfl, rfl, gT_at sub_6 159 rfl rfl⟩
theorem fl_Mo_426 : FL "QuarterBoardsModel" 426 12 68 false := ⟨_, ck_Mo, by decide, rfl, rfl, gT_at sub_6 160 rfl rfl⟩
theorem fl_Mo_429 : FL "QuarterBoardsModel" 429 12 69 false := ⟨_, ck_Mo, by decide, rfl, rfl, gT_at sub_6 161 rfl rfl⟩
theorem fl_Mo_432 : FL "QuarterBoardsModel" 432 12 70 false := ⟨_, ck_Mo, by decide, rfl, rfl, gT_at sub_6 162 rfl rfl⟩
theorem fl_Mo_146 : FL "QuarterBoardsModel" 146 12 71 true := ⟨_, ck_Mo, by decide, rfl, rfl, gT_at sub_6 163 rfl rfl⟩
theorem fl_Mo_149 : FL "QuarterBoardsModel" 149 12 72 true := ⟨_, ck_Mo, by decide, rfl, rfl, gT_at sub_6 164 rfl rfl⟩
theorem fl_Mo_438 : FL "QuarterBoardsModel" 438 12 73 false := ⟨_, ck_Mo, by decide, rfl, rfl, gT_at sub_6 165 rfl rfl⟩
theorem fl_Mo_152 : FL "QuarterBoardsModel" 152 12 74 true := ⟨_, ck_Mo, by decide, rfl, rfl, gT_at sub_6 166 rfl rfl⟩
theorem fl_Mo_155 : FL "QuarterBoardsModel" 155 12 75 true := ⟨_, ck_Mo, by decide, rfl, rfl, gT_at sub_6 167 rfl rfl⟩
theorem fl_Mo_158 : FL "QuarterBoardsModel" 158 12 76 true := ⟨_, ck_Mo, by decide, rfl, rfl, gT_at sub_6 168 rfl rfl⟩
theorem fl_Mo_161 : FL "QuarterBoardsModel" 161 12 77 true := ⟨_, ck_Mo, by decide, rfl, rfl, gT_at sub_6 169 rfl rfl⟩
theorem fl_Mo_164 : FL "QuarterBoardsModel" 164 12 78 true := ⟨_, ck_Mo, by decide, rfl, rfl, gT_at sub_6 170 rfl rfl⟩
theorem fl_Mo_168 : FL "QuarterBoardsModel" 168 12 79 true := ⟨_, ck_Mo, by decide, rfl, rfl, gT_at sub_6 171 rfl rfl⟩
theorem ml_Law_9 : Cond.methodLink "QuarterBoardsLaw" 9 ⟨"QuarterBoards", "<init>", "()V"⟩ ∈ gT := gT_at sub_1 24 rfl rfl
theorem ml_Q_1 : Cond.methodLink "QuarterBoards" 1 ⟨"java/lang/Object", "<init>", "()V"⟩ ∈ gT := gT_at sub_1 27 rfl rfl
theorem ml_Q_37 : Cond.methodLink "QuarterBoards" 37 ⟨"QuarterBoards$Tokens", "<init>", "()V"⟩ ∈ gT := gT_at sub_1 34 rfl rfl
theorem ml_Tokens_3 : Cond.methodLink "QuarterBoards$Tokens" 3 ⟨"java/lang/Object", "<init>", "()V"⟩ ∈ gT := gT_at sub_1 37 rfl rfl
theorem ml_Tokens_40 : Cond.methodLink "QuarterBoards$Tokens" 40 ⟨"java/lang/String", "charAt", "(I)C"⟩ ∈ gT := gT_at sub_1 39 rfl rfl
theorem ml_Str_492 : Cond.methodLink "java/lang/String" 492 ⟨"java/lang/String", "isLatin1", "()Z"⟩ ∈ gT := gT_at sub_1 43 rfl rfl
theorem ml_Str_495 : Cond.methodLink "java/lang/String" 495 ⟨"java/lang/StringLatin1", "charAt", "([BI)C"⟩ ∈ gT := gT_at sub_1 49 rfl rfl
theorem ml_Lat_9 : Cond.methodLink "java/lang/StringLatin1" 9 ⟨"java/lang/String", "checkIndex", "(II)V"⟩ ∈ gT := gT_at sub_1 52 rfl rfl
theorem ml_Str_1059 : Cond.methodLink "java/lang/String" 1059 ⟨"jdk/internal/util/Preconditions", "checkIndex", "(IILjava/util/function/BiFunction;)I"⟩ ∈ gT := gT_at sub_1 57 rfl rfl
theorem ml_Str_498 : Cond.methodLink "java/lang/String" 498 ⟨"java/lang/StringUTF16", "charAt", "([BI)C"⟩ ∈ gT := gT_at sub_1 60 rfl rfl
theorem ml_U16_67 : Cond.methodLink "java/lang/StringUTF16" 67 ⟨"java/lang/StringUTF16", "checkIndex", "(I[B)V"⟩ ∈ gT := gT_at sub_1 63 rfl rfl
theorem ml_U16_48 : Cond.methodLink "java/lang/StringUTF16" 48 ⟨"java/lang/StringUTF16", "length", "([B)I"⟩ ∈ gT := gT_at sub_1 66 rfl rfl
theorem ml_U16_414 : Cond.methodLink "java/lang/StringUTF16" 414 ⟨"java/lang/String", "checkIndex", "(II)V"⟩ ∈ gT := gT_at sub_1 69 rfl rfl
theorem ml_U16_71 : Cond.methodLink "java/lang/StringUTF16" 71 ⟨"java/lang/StringUTF16", "getChar", "([BI)C"⟩ ∈ gT := gT_at sub_1 70 rfl rfl
theorem ml_Tokens_46 : Cond.methodLink "QuarterBoards$Tokens" 46 ⟨"QuarterBoards$Tokens", "withLetter", "(JI)J"⟩ ∈ gT := gT_at sub_1 79 rfl rfl
theorem ml_Syntax_3 : Cond.methodLink "QuarterBoards$Syntax" 3 ⟨"java/lang/Object", "<init>", "()V"⟩ ∈ gT := gT_at sub_1 121 rfl rfl
theorem ml_Meaning_3 : Cond.methodLink "QuarterBoards$Meaning" 3 ⟨"java/lang/Object", "<init>", "()V"⟩ ∈ gT := gT_at sub_1 143 rfl rfl
theorem ml_Q_58 : Cond.methodLink "QuarterBoards" 58 ⟨"QuarterBoards$Builder", "<init>", "(LQuarterBoards$Tokens;)V"⟩ ∈ gT := gT_at sub_1 168 rfl rfl
theorem ml_Builder_3 : Cond.methodLink "QuarterBoards$Builder" 3 ⟨"java/lang/Object", "<init>", "()V"⟩ ∈ gT := gT_at sub_1 171 rfl rfl
theorem ml_Shape_3 : Cond.methodLink "QuarterBoards$Shape" 3 ⟨"java/lang/Object", "<init>", "()V"⟩ ∈ gT := gT_at sub_1 178 rfl rfl
theorem ml_Measure_3 : Cond.methodLink "QuarterBoards$Measure" 3 ⟨"java/lang/Object", "<init>", "()V"⟩ ∈ gT := gT_at sub_1 227 rfl rfl
theorem ml_Q_74 : Cond.methodLink "QuarterBoards" 74 ⟨"QuarterBoards$Filler", "<init>", "([LQuarterBoards$Form;)V"⟩ ∈ gT := gT_at sub_2 2 rfl rfl
theorem ml_Filler_5 : Cond.methodLink "QuarterBoards$Filler" 5 ⟨"java/lang/Object", "<init>", "()V"⟩ ∈ gT := gT_at sub_2 5 rfl rfl
theorem ml_Cutter_3 : Cond.methodLink "QuarterBoards$Cutter" 3 ⟨"java/lang/Object", "<init>", "()V"⟩ ∈ gT := gT_at sub_2 53 rfl rfl
theorem ml_Cutter_45 : Cond.methodLink "QuarterBoards$Cutter" 45 ⟨"QuarterBoards$Form", "<init>", "()V"⟩ ∈ gT := gT_at sub_2 58 rfl rfl
theorem ml_Form_3 : Cond.methodLink "QuarterBoards$Form" 3 ⟨"java/lang/Object", "<init>", "()V"⟩ ∈ gT := gT_at sub_2 61 rfl rfl
theorem ml_Q_90 : Cond.methodLink "QuarterBoards" 90 ⟨"QuarterBoards$Table", "<init>", "()V"⟩ ∈ gT := gT_at sub_2 133 rfl rfl
theorem ml_Table_3 : Cond.methodLink "QuarterBoards$Table" 3 ⟨"java/lang/Object", "<init>", "()V"⟩ ∈ gT := gT_at sub_2 136 rfl rfl
theorem ml_Book_3 : Cond.methodLink "QuarterBoards$Book" 3 ⟨"java/lang/Object", "<init>", "()V"⟩ ∈ gT := gT_at sub_2 160 rfl rfl
theorem ml_Q_109 : Cond.methodLink "QuarterBoards" 109 ⟨"QuarterBoards$Form", "<init>", "()V"⟩ ∈ gT := gT_at sub_2 188 rfl rfl
theorem ml_Law_13 : Cond.methodLink "QuarterBoardsLaw" 13 ⟨"QuarterBoards", "feed", "(IIIII)I"⟩ ∈ gT := gT_at sub_3 1 rfl rfl
theorem ml_Q_110 : Cond.methodLink "QuarterBoards" 110 ⟨"QuarterBoards", "appendBytes", "(I)V"⟩ ∈ gT := gT_at sub_3 5 rfl rfl
theorem ml_Law_18 : Cond.methodLink "QuarterBoardsLaw" 18 ⟨"QuarterBoards", "back", "(I)I"⟩ ∈ gT := gT_at sub_3 9 rfl rfl
theorem ml_Law_23 : Cond.methodLink "QuarterBoardsLaw" 23 ⟨"QuarterBoards", "read", "()I"⟩ ∈ gT := gT_at sub_3 13 rfl rfl
theorem ml_Q_114 : Cond.methodLink "QuarterBoards" 114 ⟨"QuarterBoards$Tokens", "scan", "([BI)V"⟩ ∈ gT := gT_at sub_3 17 rfl rfl
theorem ml_Tokens_50 : Cond.methodLink "QuarterBoards$Tokens" 50 ⟨"QuarterBoards$Tokens", "byteAt", "([BII)I"⟩ ∈ gT := gT_at sub_3 21 rfl rfl
theorem ml_Tokens_54 : Cond.methodLink "QuarterBoards$Tokens" 54 ⟨"QuarterBoards$Tokens", "isBlank", "(I)Z"⟩ ∈ gT := gT_at sub_3 24 rfl rfl
theorem ml_Tokens_58 : Cond.methodLink "QuarterBoards$Tokens" 58 ⟨"QuarterBoards$Tokens", "isLetter", "(I)Z"⟩ ∈ gT := gT_at sub_3 27 rfl rfl
theorem ml_Tokens_61 : Cond.methodLink "QuarterBoards$Tokens" 61 ⟨"QuarterBoards$Tokens", "scanLetters", "([BII)I"⟩ ∈ gT := gT_at sub_3 30 rfl rfl
theorem ml_Tokens_80 : Cond.methodLink "QuarterBoards$Tokens" 80 ⟨"QuarterBoards$Tokens", "kindOfWord", "(J)I"⟩ ∈ gT := gT_at sub_3 34 rfl rfl
theorem ml_Tokens_76 : Cond.methodLink "QuarterBoards$Tokens" 76 ⟨"QuarterBoards$Tokens", "add", "(IIJ)V"⟩ ∈ gT := gT_at sub_3 38 rfl rfl
theorem ml_Tokens_64 : Cond.methodLink "QuarterBoards$Tokens" 64 ⟨"QuarterBoards$Tokens", "isDigit", "(I)Z"⟩ ∈ gT := gT_at sub_3 42 rfl rfl
theorem ml_Tokens_67 : Cond.methodLink "QuarterBoards$Tokens" 67 ⟨"QuarterBoards$Tokens", "scanDigits", "([BII)I"⟩ ∈ gT := gT_at sub_3 45 rfl rfl
theorem ml_Tokens_72 : Cond.methodLink "QuarterBoards$Tokens" 72 ⟨"java/lang/String", "indexOf", "(I)I"⟩ ∈ gT := gT_at sub_3 50 rfl rfl
theorem ml_Str_633 : Cond.methodLink "java/lang/String" 633 ⟨"java/lang/String", "indexOf", "(II)I"⟩ ∈ gT := gT_at sub_3 54 rfl rfl
theorem ml_Str_505 : Cond.methodLink "java/lang/String" 505 ⟨"java/lang/String", "length", "()I"⟩ ∈ gT := gT_at sub_3 58 rfl rfl
theorem ml_Str_335 : Cond.methodLink "java/lang/String" 335 ⟨"java/lang/String", "coder", "()B"⟩ ∈ gT := gT_at sub_3 62 rfl rfl
theorem ml_Str_637 : Cond.methodLink "java/lang/String" 637 ⟨"java/lang/StringLatin1", "indexOf", "([BIII)I"⟩ ∈ gT := gT_at sub_3 66 rfl rfl
theorem ml_Lat_88 : Cond.methodLink "java/lang/StringLatin1" 88 ⟨"java/lang/StringLatin1", "canEncode", "(I)Z"⟩ ∈ gT := gT_at sub_3 69 rfl rfl
theorem ml_Lat_92 : Cond.methodLink "java/lang/StringLatin1" 92 ⟨"java/lang/Math", "max", "(II)I"⟩ ∈ gT := gT_at sub_3 72 rfl rfl
theorem ml_Lat_38 : Cond.methodLink "java/lang/StringLatin1" 38 ⟨"java/lang/Math", "min", "(II)I"⟩ ∈ gT := gT_at sub_3 75 rfl rfl
theorem ml_Lat_95 : Cond.methodLink "java/lang/StringLatin1" 95 ⟨"java/lang/StringLatin1", "indexOfChar", "([BIII)I"⟩ ∈ gT := gT_at sub_3 78 rfl rfl
theorem ml_Str_640 : Cond.methodLink "java/lang/String" 640 ⟨"java/lang/StringUTF16", "indexOf", "([BIII)I"⟩ ∈ gT := gT_at sub_3 81 rfl rfl
theorem ml_U16_224 : Cond.methodLink "java/lang/StringUTF16" 224 ⟨"java/lang/Math", "max", "(II)I"⟩ ∈ gT := gT_at sub_3 84 rfl rfl
theorem ml_U16_183 : Cond.methodLink "java/lang/StringUTF16" 183 ⟨"java/lang/Math", "min", "(II)I"⟩ ∈ gT := gT_at sub_3 85 rfl rfl
theorem ml_U16_228 : Cond.methodLink "java/lang/StringUTF16" 228 ⟨"java/lang/StringUTF16", "indexOfChar", "([BIII)I"⟩ ∈ gT := gT_at sub_3 87 rfl rfl
theorem ml_U16_96 : Cond.methodLink "java/lang/StringUTF16" 96 ⟨"java/lang/StringUTF16", "checkBoundsBeginEnd", "(II[B)V"⟩ ∈ gT := gT_at sub_3 90 rfl rfl
theorem ml_U16_241 : Cond.methodLink "java/lang/StringUTF16" 241 ⟨"java/lang/String", "checkBoundsBeginEnd", "(III)V"⟩ ∈ gT := gT_at sub_3 93 rfl rfl
theorem ml_Str_1062 : Cond.methodLink "java/lang/String" 1062 ⟨"jdk/internal/util/Preconditions", "checkFromToIndex", "(IIILjava/util/function/BiFunction;)I"⟩ ∈ gT := gT_at sub_3 96 rfl rfl
theorem ml_U16_244 : Cond.methodLink "java/lang/StringUTF16" 244 ⟨"java/lang/StringUTF16", "indexOfCharUnsafe", "([BIII)I"⟩ ∈ gT := gT_at sub_3 99 rfl rfl
theorem ml_U16_232 : Cond.methodLink "java/lang/StringUTF16" 232 ⟨"java/lang/StringUTF16", "indexOfSupplementary", "([BIII)I"⟩ ∈ gT := gT_at sub_3 102 rfl rfl
theorem ml_U16_164 : Cond.methodLink "java/lang/StringUTF16" 164 ⟨"java/lang/Character", "isValidCodePoint", "(I)Z"⟩ ∈ gT := gT_at sub_3 105 rfl rfl
theorem ml_U16_157 : Cond.methodLink "java/lang/StringUTF16" 157 ⟨"java/lang/Character", "highSurrogate", "(I)C"⟩ ∈ gT := gT_at sub_3 108 rfl rfl
theorem ml_U16_161 : Cond.methodLink "java/lang/StringUTF16" 161 ⟨"java/lang/Character", "lowSurrogate", "(I)C"⟩ ∈ gT := gT_at sub_3 112 rfl rfl
theorem ml_Q_118 : Cond.methodLink "QuarterBoards" 118 ⟨"QuarterBoards$Syntax", "check", "(LQuarterBoards$Tokens;)V"⟩ ∈ gT := gT_at sub_3 116 rfl rfl
theorem ml_Syntax_32 : Cond.methodLink "QuarterBoards$Syntax" 32 ⟨"QuarterBoards$Tokens", "kindAt", "(I)I"⟩ ∈ gT := gT_at sub_3 120 rfl rfl
theorem ml_Syntax_36 : Cond.methodLink "QuarterBoards$Syntax" 36 ⟨"QuarterBoards$Syntax", "next", "(I)I"⟩ ∈ gT := gT_at sub_3 124 rfl rfl
theorem ml_Syntax_47 : Cond.methodLink "QuarterBoards$Syntax" 47 ⟨"QuarterBoards$Syntax", "behindTelling", "(I)I"⟩ ∈ gT := gT_at sub_3 128 rfl rfl
theorem ml_Syntax_50 : Cond.methodLink "QuarterBoards$Syntax" 50 ⟨"QuarterBoards$Syntax", "inPart", "(I)I"⟩ ∈ gT := gT_at sub_3 132 rfl rfl
theorem ml_Syntax_53 : Cond.methodLink "QuarterBoards$Syntax" 53 ⟨"QuarterBoards$Syntax", "behindShiftNumber", "(I)I"⟩ ∈ gT := gT_at sub_3 136 rfl rfl
theorem ml_Syntax_56 : Cond.methodLink "QuarterBoards$Syntax" 56 ⟨"QuarterBoards$Syntax", "behindUnitNumber", "(I)I"⟩ ∈ gT := gT_at sub_3 140 rfl rfl
theorem ml_Syntax_59 : Cond.methodLink "QuarterBoards$Syntax" 59 ⟨"QuarterBoards$Syntax", "behindUnit", "(I)I"⟩ ∈ gT := gT_at sub_3 144 rfl rfl
theorem ml_Syntax_39 : Cond.methodLink "QuarterBoards$Syntax" 39 ⟨"QuarterBoards$Tokens", "blame", "(II)V"⟩ ∈ gT := gT_at sub_3 148 rfl rfl
theorem ml_Tokens_84 : Cond.methodLink "QuarterBoards$Tokens" 84 ⟨"QuarterBoards$Tokens", "placeAt", "(I)I"⟩ ∈ gT := gT_at sub_3 152 rfl rfl
theorem ml_Syntax_43 : Cond.methodLink "QuarterBoards$Syntax" 43 ⟨"QuarterBoards$Syntax", "lacksRoom", "()Z"⟩ ∈ gT := gT_at sub_3 156 rfl rfl
theorem ml_Q_124 : Cond.methodLink "QuarterBoards" 124 ⟨"QuarterBoards$Meaning", "check", "(LQuarterBoards$Tokens;)V"⟩ ∈ gT := gT_at sub_3 160 rfl rfl
theorem ml_Meaning_40 : Cond.methodLink "QuarterBoards$Meaning" 40 ⟨"QuarterBoards$Meaning", "faultAt", "(LQuarterBoards$Tokens;I)I"⟩ ∈ gT := gT_at sub_3 164 rfl rfl
theorem ml_Meaning_48 : Cond.methodLink "QuarterBoards$Meaning" 48 ⟨"QuarterBoards$Tokens", "kindAt", "(I)I"⟩ ∈ gT := gT_at sub_3 168 rfl rfl
theorem ml_Meaning_52 : Cond.methodLink "QuarterBoards$Meaning" 52 ⟨"QuarterBoards$Meaning", "isTelling", "(I)Z"⟩ ∈ gT := gT_at sub_3 169 rfl rfl
theorem ml_Meaning_56 : Cond.methodLink "QuarterBoards$Meaning" 56 ⟨"QuarterBoards$Tokens", "valueAt", "(I)J"⟩ ∈ gT := gT_at sub_3 172 rfl rfl
theorem ml_Meaning_60 : Cond.methodLink "QuarterBoards$Meaning" 60 ⟨"QuarterBoards$Meaning", "openNameFault", "(J)I"⟩ ∈ gT := gT_at sub_3 176 rfl rfl
theorem ml_Meaning_73 : Cond.methodLink "QuarterBoards$Meaning" 73 ⟨"QuarterBoards$Meaning", "isTold", "(J)Z"⟩ ∈ gT := gT_at sub_3 180 rfl rfl
theorem ml_Meaning_64 : Cond.methodLink "QuarterBoards$Meaning" 64 ⟨"QuarterBoards$Meaning", "usedNameFault", "(J)I"⟩ ∈ gT := gT_at sub_3 184 rfl rfl
theorem ml_Meaning_67 : Cond.methodLink "QuarterBoards$Meaning" 67 ⟨"QuarterBoards$Meaning", "numberFault", "(I)I"⟩ ∈ gT := gT_at sub_3 188 rfl rfl
theorem ml_Meaning_77 : Cond.methodLink "QuarterBoards$Meaning" 77 ⟨"QuarterBoards$Meaning", "leastNumber", "(I)I"⟩ ∈ gT := gT_at sub_3 192 rfl rfl
theorem ml_Meaning_80 : Cond.methodLink "QuarterBoards$Meaning" 80 ⟨"QuarterBoards$Meaning", "mostNumber", "(I)I"⟩ ∈ gT := gT_at sub_3 196 rfl rfl
theorem ml_Meaning_70 : Cond.methodLink "QuarterBoards$Meaning" 70 ⟨"QuarterBoards$Meaning", "closeName", "()V"⟩ ∈ gT := gT_at sub_3 200 rfl rfl
theorem ml_Meaning_44 : Cond.methodLink "QuarterBoards$Meaning" 44 ⟨"QuarterBoards$Tokens", "blame", "(II)V"⟩ ∈ gT := gT_at sub_3 204 rfl rfl
theorem ml_Q_125 : Cond.methodLink "QuarterBoards" 125 ⟨"QuarterBoards$Builder", "build", "()V"⟩ ∈ gT := gT_at sub_3 205 rfl rfl
theorem ml_Builder_57 : Cond.methodLink "QuarterBoards$Builder" 57 ⟨"QuarterBoards$Tokens", "kindAt", "(I)I"⟩ ∈ gT := gT_at sub_3 209 rfl rfl
theorem ml_Builder_61 : Cond.methodLink "QuarterBoards$Builder" 61 ⟨"QuarterBoards$Tokens", "valueAt", "(I)J"⟩ ∈ gT := gT_at sub_3 210 rfl rfl
theorem ml_Builder_65 : Cond.methodLink "QuarterBoards$Builder" 65 ⟨"QuarterBoards$Builder", "sumUp", "(I)V"⟩ ∈ gT := gT_at sub_3 211 rfl rfl
theorem ml_Builder_84 : Cond.methodLink "QuarterBoards$Builder" 84 ⟨"QuarterBoards$Builder", "makePart", "(I)V"⟩ ∈ gT := gT_at sub_3 215 rfl rfl
theorem ml_Builder_100 : Cond.methodLink "QuarterBoards$Builder" 100 ⟨"QuarterBoards$Builder", "isWord", "(I)Z"⟩ ∈ gT := gT_at sub_3 219 rfl rfl
theorem ml_Builder_104 : Cond.methodLink "QuarterBoards$Builder" 104 ⟨"QuarterBoards$Builder", "openWord", "()V"⟩ ∈ gT := gT_at sub_3 222 rfl rfl
theorem ml_Builder_114 : Cond.methodLink "QuarterBoards$Builder" 114 ⟨"QuarterBoards$Builder", "behindNumber", "(I)I"⟩ ∈ gT := gT_at sub_3 226 rfl rfl
theorem ml_Builder_107 : Cond.methodLink "QuarterBoards$Builder" 107 ⟨"QuarterBoards$Builder", "makeUnit", "(I)V"⟩ ∈ gT := gT_at sub_3 230 rfl rfl
theorem ml_Builder_80 : Cond.methodLink "QuarterBoards$Builder" 80 ⟨"QuarterBoards$Shape", "copy", "(LQuarterBoards$Shape;)V"⟩ ∈ gT := gT_at sub_3 234 rfl rfl
theorem ml_Builder_137 : Cond.methodLink "QuarterBoards$Builder" 137 ⟨"QuarterBoards$Builder", "copyNamed", "(LQuarterBoards$Shape;J)V"⟩ ∈ gT := gT_at sub_3 238 rfl rfl
theorem ml_Builder_145 : Cond.methodLink "QuarterBoards$Builder" 145 ⟨"QuarterBoards$Shape", "clear", "()V"⟩ ∈ gT := gT_at sub_4 2 rfl rfl
theorem ml_Builder_141 : Cond.methodLink "QuarterBoards$Builder" 141 ⟨"QuarterBoards$Builder", "makeCells", "(LQuarterBoards$Shape;I)V"⟩ ∈ gT := gT_at sub_4 6 rfl rfl
theorem ml_Builder_126 : Cond.methodLink "QuarterBoards$Builder" 126 ⟨"QuarterBoards$Builder", "numberAt", "(I)I"⟩ ∈ gT := gT_at sub_4 10 rfl rfl
theorem ml_Builder_148 : Cond.methodLink "QuarterBoards$Builder" 148 ⟨"QuarterBoards$Shape", "addCell", "(III)V"⟩ ∈ gT := gT_at sub_4 14 rfl rfl
theorem ml_Builder_152 : Cond.methodLink "QuarterBoards$Builder" 152 ⟨"QuarterBoards$Builder", "addBox", "(LQuarterBoards$Shape;IIII)V"⟩ ∈ gT := gT_at sub_4 18 rfl rfl
theorem ml_Builder_110 : Cond.methodLink "QuarterBoards$Builder" 110 ⟨"QuarterBoards$Builder", "doWord", "(ILQuarterBoards$Shape;)V"⟩ ∈ gT := gT_at sub_4 21 rfl rfl
theorem ml_Builder_117 : Cond.methodLink "QuarterBoards$Builder" 117 ⟨"QuarterBoards$Shape", "becomeTurned", "(LQuarterBoards$Shape;)V"⟩ ∈ gT := gT_at sub_4 25 rfl rfl
theorem ml_Shape_44 : Cond.methodLink "QuarterBoards$Shape" 44 ⟨"QuarterBoards$Shape", "clear", "()V"⟩ ∈ gT := gT_at sub_4 29 rfl rfl
theorem ml_Shape_47 : Cond.methodLink "QuarterBoards$Shape" 47 ⟨"QuarterBoards$Shape", "cell", "(II)I"⟩ ∈ gT := gT_at sub_4 30 rfl rfl
theorem ml_Shape_51 : Cond.methodLink "QuarterBoards$Shape" 51 ⟨"QuarterBoards$Shape", "addCell", "(III)V"⟩ ∈ gT := gT_at sub_4 34 rfl rfl
theorem ml_Builder_120 : Cond.methodLink "QuarterBoards$Builder" 120 ⟨"QuarterBoards$Shape", "becomeFlipped", "(LQuarterBoards$Shape;)V"⟩ ∈ gT := gT_at sub_4 35 rfl rfl
theorem ml_Builder_123 : Cond.methodLink "QuarterBoards$Builder" 123 ⟨"QuarterBoards$Shape", "moveToBase", "()V"⟩ ∈ gT := gT_at sub_4 39 rfl rfl
theorem ml_Shape_38 : Cond.methodLink "QuarterBoards$Shape" 38 ⟨"QuarterBoards$Shape", "top", "()I"⟩ ∈ gT := gT_at sub_4 43 rfl rfl
theorem ml_Shape_21 : Cond.methodLink "QuarterBoards$Shape" 21 ⟨"QuarterBoards$Shape", "columns", "()I"⟩ ∈ gT := gT_at sub_4 47 rfl rfl
theorem ml_Shape_25 : Cond.methodLink "QuarterBoards$Shape" 25 ⟨"QuarterBoards$Shape", "leftmost", "(I)I"⟩ ∈ gT := gT_at sub_4 51 rfl rfl
theorem ml_Shape_55 : Cond.methodLink "QuarterBoards$Shape" 55 ⟨"QuarterBoards$Shape", "slide", "(II)I"⟩ ∈ gT := gT_at sub_4 54 rfl rfl
theorem ml_Builder_129 : Cond.methodLink "QuarterBoards$Builder" 129 ⟨"QuarterBoards$Shape", "goesOff", "(II)Z"⟩ ∈ gT := gT_at sub_4 57 rfl rfl
theorem ml_Shape_28 : Cond.methodLink "QuarterBoards$Shape" 28 ⟨"QuarterBoards$Shape", "isNothing", "()Z"⟩ ∈ gT := gT_at sub_4 61 rfl rfl
theorem ml_Shape_32 : Cond.methodLink "QuarterBoards$Shape" 32 ⟨"QuarterBoards$Shape", "left", "()I"⟩ ∈ gT := gT_at sub_4 65 rfl rfl
theorem ml_Shape_35 : Cond.methodLink "QuarterBoards$Shape" 35 ⟨"QuarterBoards$Shape", "right", "()I"⟩ ∈ gT := gT_at sub_4 69 rfl rfl
theorem ml_Shape_41 : Cond.methodLink "QuarterBoards$Shape" 41 ⟨"QuarterBoards$Shape", "bottom", "()I"⟩ ∈ gT := gT_at sub_4 73 rfl rfl
theorem ml_Builder_76 : Cond.methodLink "QuarterBoards$Builder" 76 ⟨"QuarterBoards$Tokens", "blame", "(II)V"⟩ ∈ gT := gT_at sub_4 77 rfl rfl
theorem ml_Builder_133 : Cond.methodLink "QuarterBoards$Builder" 133 ⟨"QuarterBoards$Shape", "becomeShifted", "(LQuarterBoards$Shape;II)V"⟩ ∈ gT := gT_at sub_4 78 rfl rfl
theorem ml_Builder_87 : Cond.methodLink "QuarterBoards$Builder" 87 ⟨"QuarterBoards$Builder", "combine", "(LQuarterBoards$Shape;ILQuarterBoards$Shape;)V"⟩ ∈ gT := gT_at sub_4 82 rfl rfl
theorem ml_Builder_91 : Cond.methodLink "QuarterBoards$Builder" 91 ⟨"QuarterBoards$Shape", "join", "(LQuarterBoards$Shape;)V"⟩ ∈ gT := gT_at sub_4 85 rfl rfl
theorem ml_Builder_94 : Cond.methodLink "QuarterBoards$Builder" 94 ⟨"QuarterBoards$Shape", "takeAway", "(LQuarterBoards$Shape;)V"⟩ ∈ gT := gT_at sub_4 89 rfl rfl
theorem ml_Builder_97 : Cond.methodLink "QuarterBoards$Builder" 97 ⟨"QuarterBoards$Shape", "keepCommon", "(LQuarterBoards$Shape;)V"⟩ ∈ gT := gT_at sub_4 93 rfl rfl
theorem ml_Builder_72 : Cond.methodLink "QuarterBoards$Builder" 72 ⟨"QuarterBoards$Shape", "isNothing", "()Z"⟩ ∈ gT := gT_at sub_4 97 rfl rfl
theorem ml_Q_129 : Cond.methodLink "QuarterBoards" 129 ⟨"QuarterBoards", "takeOver", "()V"⟩ ∈ gT := gT_at sub_4 98 rfl rfl
theorem ml_Q_299 : Cond.methodLink "QuarterBoards" 299 ⟨"QuarterBoards$Form", "tell", "(LQuarterBoards$Shape;)V"⟩ ∈ gT := gT_at sub_4 102 rfl rfl
theorem ml_Form_39 : Cond.methodLink "QuarterBoards$Form" 39 ⟨"QuarterBoards$Shape", "copy", "(LQuarterBoards$Shape;)V"⟩ ∈ gT := gT_at sub_4 106 rfl rfl
theorem ml_Form_43 : Cond.methodLink "QuarterBoards$Form" 43 ⟨"QuarterBoards$Shape", "countQuarters", "()I"⟩ ∈ gT := gT_at sub_4 107 rfl rfl
theorem ml_Shape_15 : Cond.methodLink "QuarterBoards$Shape" 15 ⟨"java/lang/Integer", "bitCount", "(I)I"⟩ ∈ gT := gT_at sub_4 111 rfl rfl
theorem ml_Form_47 : Cond.methodLink "QuarterBoards$Form" 47 ⟨"QuarterBoards$Form", "makeImage", "(I)V"⟩ ∈ gT := gT_at sub_4 117 rfl rfl
theorem ml_Form_51 : Cond.methodLink "QuarterBoards$Form" 51 ⟨"QuarterBoards$Shape", "becomeFlipped", "(LQuarterBoards$Shape;)V"⟩ ∈ gT := gT_at sub_4 121 rfl rfl
theorem ml_Form_54 : Cond.methodLink "QuarterBoards$Form" 54 ⟨"QuarterBoards$Shape", "becomeTurned", "(LQuarterBoards$Shape;)V"⟩ ∈ gT := gT_at sub_4 122 rfl rfl
theorem ml_Form_57 : Cond.methodLink "QuarterBoards$Form" 57 ⟨"QuarterBoards$Shape", "moveToBase", "()V"⟩ ∈ gT := gT_at sub_4 123 rfl rfl
theorem ml_Form_60 : Cond.methodLink "QuarterBoards$Form" 60 ⟨"QuarterBoards$Shape", "lowestQuarter", "()I"⟩ ∈ gT := gT_at sub_4 124 rfl rfl
theorem ml_Form_63 : Cond.methodLink "QuarterBoards$Form" 63 ⟨"QuarterBoards$Shape", "right", "()I"⟩ ∈ gT := gT_at sub_4 128 rfl rfl
theorem ml_Form_66 : Cond.methodLink "QuarterBoards$Form" 66 ⟨"QuarterBoards$Shape", "bottom", "()I"⟩ ∈ gT := gT_at sub_4 129 rfl rfl
theorem ml_Form_69 : Cond.methodLink "QuarterBoards$Form" 69 ⟨"QuarterBoards$Shape", "isSame", "(LQuarterBoards$Shape;)Z"⟩ ∈ gT := gT_at sub_4 130 rfl rfl
theorem ml_Q_302 : Cond.methodLink "QuarterBoards" 302 ⟨"QuarterBoards$Table", "empty", "()V"⟩ ∈ gT := gT_at sub_4 134 rfl rfl
theorem ml_Table_32 : Cond.methodLink "QuarterBoards$Table" 32 ⟨"QuarterBoards$Table", "take", "(I)V"⟩ ∈ gT := gT_at sub_4 138 rfl rfl
theorem ml_Table_54 : Cond.methodLink "QuarterBoards$Table" 54 ⟨"QuarterBoards$Shape", "clear", "()V"⟩ ∈ gT := gT_at sub_4 142 rfl rfl
theorem ml_Q_305 : Cond.methodLink "QuarterBoards" 305 ⟨"QuarterBoards$Book", "empty", "()V"⟩ ∈ gT := gT_at sub_4 143 rfl rfl
theorem ml_Q_190 : Cond.methodLink "QuarterBoards" 190 ⟨"QuarterBoards$Filler", "forget", "()V"⟩ ∈ gT := gT_at sub_4 147 rfl rfl
theorem ml_Q_306 : Cond.methodLink "QuarterBoards" 306 ⟨"QuarterBoards$Filler", "forgetSets", "()V"⟩ ∈ gT := gT_at sub_4 151 rfl rfl
theorem ml_Q_218 : Cond.methodLink "QuarterBoards" 218 ⟨"QuarterBoards$Cutter", "forget", "()V"⟩ ∈ gT := gT_at sub_4 155 rfl rfl
theorem ml_Law_28 : Cond.methodLink "QuarterBoardsLaw" 28 ⟨"QuarterBoards", "place", "()I"⟩ ∈ gT := gT_at sub_4 159 rfl rfl
theorem ml_Law_32 : Cond.methodLink "QuarterBoardsLaw" 32 ⟨"QuarterBoards", "area", "(ZI)I"⟩ ∈ gT := gT_at sub_4 163 rfl rfl
theorem ml_Q_132 : Cond.methodLink "QuarterBoards" 132 ⟨"QuarterBoards", "formOf", "(ZI)LQuarterBoards$Form;"⟩ ∈ gT := gT_at sub_4 167 rfl rfl
theorem ml_Law_37 : Cond.methodLink "QuarterBoardsLaw" 37 ⟨"QuarterBoards", "has", "(ZII)I"⟩ ∈ gT := gT_at sub_4 171 rfl rfl
theorem ml_Q_139 : Cond.methodLink "QuarterBoards" 139 ⟨"QuarterBoards", "isQuarter", "(I)Z"⟩ ∈ gT := gT_at sub_4 175 rfl rfl
theorem ml_Q_146 : Cond.methodLink "QuarterBoards" 146 ⟨"QuarterBoards$Shape", "holds", "(I)Z"⟩ ∈ gT := gT_at sub_4 178 rfl rfl
theorem ml_Law_42 : Cond.methodLink "QuarterBoardsLaw" 42 ⟨"QuarterBoards", "pieces", "(ZI)I"⟩ ∈ gT := gT_at sub_4 182 rfl rfl
theorem ml_Q_149 : Cond.methodLink "QuarterBoards" 149 ⟨"QuarterBoards$Measure", "countPieces", "(LQuarterBoards$Shape;)I"⟩ ∈ gT := gT_at sub_4 186 rfl rfl
theorem ml_Measure_26 : Cond.methodLink "QuarterBoards$Measure" 26 ⟨"QuarterBoards$Shape", "copy", "(LQuarterBoards$Shape;)V"⟩ ∈ gT := gT_at sub_4 190 rfl rfl
theorem ml_Measure_30 : Cond.methodLink "QuarterBoards$Measure" 30 ⟨"QuarterBoards$Shape", "holds", "(I)Z"⟩ ∈ gT := gT_at sub_4 191 rfl rfl
theorem ml_Measure_34 : Cond.methodLink "QuarterBoards$Measure" 34 ⟨"QuarterBoards$Measure", "takePiece", "(I)V"⟩ ∈ gT := gT_at sub_4 192 rfl rfl
theorem ml_Measure_46 : Cond.methodLink "QuarterBoards$Measure" 46 ⟨"QuarterBoards$Measure", "takeOpen", "(I)V"⟩ ∈ gT := gT_at sub_4 196 rfl rfl
theorem ml_Measure_53 : Cond.methodLink "QuarterBoards$Measure" 53 ⟨"QuarterBoards$Shape", "drop", "(I)V"⟩ ∈ gT := gT_at sub_4 200 rfl rfl
theorem ml_Measure_49 : Cond.methodLink "QuarterBoards$Measure" 49 ⟨"QuarterBoards$Measure", "across", "(I)I"⟩ ∈ gT := gT_at sub_4 204 rfl rfl
theorem ml_Law_46 : Cond.methodLink "QuarterBoardsLaw" 46 ⟨"QuarterBoards", "corners", "(ZIZ)I"⟩ ∈ gT := gT_at sub_4 207 rfl rfl
theorem ml_Q_153 : Cond.methodLink "QuarterBoards" 153 ⟨"QuarterBoards$Measure", "countCorners", "(LQuarterBoards$Shape;Z)I"⟩ ∈ gT := gT_at sub_4 211 rfl rfl
theorem ml_Measure_56 : Cond.methodLink "QuarterBoards$Measure" 56 ⟨"QuarterBoards$Measure", "ringAt", "(LQuarterBoards$Shape;II)I"⟩ ∈ gT := gT_at sub_4 215 rfl rfl
theorem ml_Measure_64 : Cond.methodLink "QuarterBoards$Measure" 64 ⟨"QuarterBoards$Shape", "cell", "(II)I"⟩ ∈ gT := gT_at sub_4 218 rfl rfl
theorem ml_Measure_60 : Cond.methodLink "QuarterBoards$Measure" 60 ⟨"QuarterBoards$Measure", "countAngles", "(IIZ)I"⟩ ∈ gT := gT_at sub_4 219 rfl rfl
theorem ml_Measure_68 : Cond.methodLink "QuarterBoards$Measure" 68 ⟨"QuarterBoards$Measure", "rowLength", "(III)I"⟩ ∈ gT := gT_at sub_4 222 rfl rfl
theorem ml_Law_51 : Cond.methodLink "QuarterBoardsLaw" 51 ⟨"QuarterBoards", "bulges", "(ZI)I"⟩ ∈ gT := gT_at sub_4 225 rfl rfl
theorem ml_Q_157 : Cond.methodLink "QuarterBoards" 157 ⟨"QuarterBoards$Measure", "isOnePiece", "(LQuarterBoards$Shape;)Z"⟩ ∈ gT := gT_at sub_4 229 rfl rfl
theorem ml_Measure_38 : Cond.methodLink "QuarterBoards$Measure" 38 ⟨"QuarterBoards$Shape", "lowestQuarter", "()I"⟩ ∈ gT := gT_at sub_4 233 rfl rfl
theorem ml_Measure_42 : Cond.methodLink "QuarterBoards$Measure" 42 ⟨"QuarterBoards$Shape", "isNothing", "()Z"⟩ ∈ gT := gT_at sub_4 234 rfl rfl
theorem ml_Law_55 : Cond.methodLink "QuarterBoardsLaw" 55 ⟨"QuarterBoards", "images", "(ZI)I"⟩ ∈ gT := gT_at sub_4 235 rfl rfl
theorem ml_Q_161 : Cond.methodLink "QuarterBoards" 161 ⟨"QuarterBoards$Form", "countDifferent", "()I"⟩ ∈ gT := gT_at sub_4 239 rfl rfl
theorem ml_Law_59 : Cond.methodLink "QuarterBoardsLaw" 59 ⟨"QuarterBoards", "least", "(ZII)I"⟩ ∈ gT := gT_at sub_5 3 rfl rfl
theorem ml_Q_165 : Cond.methodLink "QuarterBoards" 165 ⟨"QuarterBoards", "isImage", "(I)Z"⟩ ∈ gT := gT_at sub_5 7 rfl rfl
theorem ml_Law_63 : Cond.methodLink "QuarterBoardsLaw" 63 ⟨"QuarterBoards", "alike", "(II)I"⟩ ∈ gT := gT_at sub_5 10 rfl rfl
theorem ml_Q_172 : Cond.methodLink "QuarterBoards" 172 ⟨"QuarterBoards$Form", "base", "()LQuarterBoards$Shape;"⟩ ∈ gT := gT_at sub_5 14 rfl rfl
theorem ml_Q_176 : Cond.methodLink "QuarterBoards" 176 ⟨"QuarterBoards$Form", "imageThatIs", "(LQuarterBoards$Shape;)I"⟩ ∈ gT := gT_at sub_5 18 rfl rfl
theorem ml_Law_68 : Cond.methodLink "QuarterBoardsLaw" 68 ⟨"QuarterBoards", "shows", "()I"⟩ ∈ gT := gT_at sub_5 22 rfl rfl
theorem ml_Q_179 : Cond.methodLink "QuarterBoards" 179 ⟨"QuarterBoards$Table", "unite", "(LQuarterBoards$Shape;)V"⟩ ∈ gT := gT_at sub_5 26 rfl rfl
theorem ml_Table_86 : Cond.methodLink "QuarterBoards$Table" 86 ⟨"QuarterBoards$Shape", "join", "(LQuarterBoards$Shape;)V"⟩ ∈ gT := gT_at sub_5 30 rfl rfl
theorem ml_Q_183 : Cond.methodLink "QuarterBoards" 183 ⟨"QuarterBoards$Shape", "isNothing", "()Z"⟩ ∈ gT := gT_at sub_5 31 rfl rfl
theorem ml_Q_187 : Cond.methodLink "QuarterBoards" 187 ⟨"QuarterBoards$Shape", "moveToBase", "()V"⟩ ∈ gT := gT_at sub_5 32 rfl rfl
theorem ml_Law_72 : Cond.methodLink "QuarterBoardsLaw" 72 ⟨"QuarterBoards", "fill", "(II)I"⟩ ∈ gT := gT_at sub_5 33 rfl rfl
theorem ml_Q_193 : Cond.methodLink "QuarterBoards" 193 ⟨"QuarterBoards", "isSet", "(I)Z"⟩ ∈ gT := gT_at sub_5 37 rfl rfl
theorem ml_Q_196 : Cond.methodLink "QuarterBoards" 196 ⟨"QuarterBoards$Filler", "countAll", "(LQuarterBoards$Form;I)I"⟩ ∈ gT := gT_at sub_5 41 rfl rfl
theorem ml_Filler_57 : Cond.methodLink "QuarterBoards$Filler" 57 ⟨"QuarterBoards$Filler", "look", "(LQuarterBoards$Form;IZ)V"⟩ ∈ gT := gT_at sub_5 45 rfl rfl
theorem ml_Filler_73 : Cond.methodLink "QuarterBoards$Filler" 73 ⟨"QuarterBoards$Filler", "areaOf", "(I)I"⟩ ∈ gT := gT_at sub_5 49 rfl rfl
theorem ml_Filler_85 : Cond.methodLink "QuarterBoards$Filler" 85 ⟨"QuarterBoards$Shape", "copy", "(LQuarterBoards$Shape;)V"⟩ ∈ gT := gT_at sub_5 53 rfl rfl
theorem ml_Filler_89 : Cond.methodLink "QuarterBoards$Filler" 89 ⟨"QuarterBoards$Filler", "search", "(II)V"⟩ ∈ gT := gT_at sub_5 54 rfl rfl
theorem ml_Filler_93 : Cond.methodLink "QuarterBoards$Filler" 93 ⟨"QuarterBoards$Shape", "lowestQuarter", "()I"⟩ ∈ gT := gT_at sub_5 58 rfl rfl
theorem ml_Filler_97 : Cond.methodLink "QuarterBoards$Filler" 97 ⟨"QuarterBoards$Filler", "countWay", "()V"⟩ ∈ gT := gT_at sub_5 59 rfl rfl
theorem ml_Filler_100 : Cond.methodLink "QuarterBoards$Filler" 100 ⟨"QuarterBoards$Filler", "isOver", "()Z"⟩ ∈ gT := gT_at sub_5 66 rfl rfl
theorem ml_Filler_104 : Cond.methodLink "QuarterBoards$Filler" 104 ⟨"QuarterBoards$Filler", "tryBoard", "(IIII)V"⟩ ∈ gT := gT_at sub_5 70 rfl rfl
theorem ml_Filler_120 : Cond.methodLink "QuarterBoards$Filler" 120 ⟨"QuarterBoards$Form", "staysOn", "(III)Z"⟩ ∈ gT := gT_at sub_5 74 rfl rfl
theorem ml_Filler_132 : Cond.methodLink "QuarterBoards$Filler" 132 ⟨"QuarterBoards$Filler", "fits", "(LQuarterBoards$Shape;III)Z"⟩ ∈ gT := gT_at sub_5 79 rfl rfl
theorem ml_Filler_147 : Cond.methodLink "QuarterBoards$Filler" 147 ⟨"QuarterBoards$Shape", "slide", "(II)I"⟩ ∈ gT := gT_at sub_5 83 rfl rfl
theorem ml_Filler_136 : Cond.methodLink "QuarterBoards$Filler" 136 ⟨"QuarterBoards$Filler", "layCode", "(III)I"⟩ ∈ gT := gT_at sub_5 84 rfl rfl
theorem ml_Filler_140 : Cond.methodLink "QuarterBoards$Filler" 140 ⟨"QuarterBoards$Filler", "change", "(LQuarterBoards$Shape;III)V"⟩ ∈ gT := gT_at sub_5 87 rfl rfl
theorem ml_Law_76 : Cond.methodLink "QuarterBoardsLaw" 76 ⟨"QuarterBoards", "filled", "(II)I"⟩ ∈ gT := gT_at sub_5 91 rfl rfl
theorem ml_Q_200 : Cond.methodLink "QuarterBoards" 200 ⟨"QuarterBoards$Filler", "tellRemembered", "(II)I"⟩ ∈ gT := gT_at sub_5 95 rfl rfl
theorem ml_Filler_61 : Cond.methodLink "QuarterBoards$Filler" 61 ⟨"QuarterBoards$Filler", "tellOf", "(II)I"⟩ ∈ gT := gT_at sub_5 99 rfl rfl
theorem ml_Law_80 : Cond.methodLink "QuarterBoardsLaw" 80 ⟨"QuarterBoards", "steps", "()I"⟩ ∈ gT := gT_at sub_5 102 rfl rfl
theorem ml_Law_84 : Cond.methodLink "QuarterBoardsLaw" 84 ⟨"QuarterBoards", "sets", "(I)I"⟩ ∈ gT := gT_at sub_5 106 rfl rfl
theorem ml_Q_207 : Cond.methodLink "QuarterBoards" 207 ⟨"QuarterBoards$Filler", "countSets", "(ILQuarterBoards$Form;I)I"⟩ ∈ gT := gT_at sub_5 110 rfl rfl
theorem ml_Filler_65 : Cond.methodLink "QuarterBoards$Filler" 65 ⟨"QuarterBoards$Filler", "lookForSets", "([ILQuarterBoards$Form;I)I"⟩ ∈ gT := gT_at sub_5 114 rfl rfl
theorem ml_Law_88 : Cond.methodLink "QuarterBoardsLaw" 88 ⟨"QuarterBoards", "set", "(II)I"⟩ ∈ gT := gT_at sub_5 118 rfl rfl
theorem ml_Q_211 : Cond.methodLink "QuarterBoards" 211 ⟨"QuarterBoards$Filler", "setAt", "(II)I"⟩ ∈ gT := gT_at sub_5 122 rfl rfl
theorem ml_Filler_69 : Cond.methodLink "QuarterBoards$Filler" 69 ⟨"QuarterBoards$Filler", "doesFill", "(II)Z"⟩ ∈ gT := gT_at sub_5 126 rfl rfl
theorem ml_Law_92 : Cond.methodLink "QuarterBoardsLaw" 92 ⟨"QuarterBoards", "needed", "(I)I"⟩ ∈ gT := gT_at sub_5 130 rfl rfl
theorem ml_Q_214 : Cond.methodLink "QuarterBoards" 214 ⟨"QuarterBoards$Filler", "inAllSets", "(I)I"⟩ ∈ gT := gT_at sub_5 134 rfl rfl
theorem ml_Law_96 : Cond.methodLink "QuarterBoardsLaw" 96 ⟨"QuarterBoards", "cut", "(II)I"⟩ ∈ gT := gT_at sub_5 138 rfl rfl
theorem ml_Q_219 : Cond.methodLink "QuarterBoards" 219 ⟨"QuarterBoards$Cutter", "look", "(LQuarterBoards$Form;LQuarterBoards$Form;LQuarterBoards$Measure;)I"⟩ ∈ gT := gT_at sub_5 142 rfl rfl
theorem ml_Cutter_50 : Cond.methodLink "QuarterBoards$Cutter" 50 ⟨"QuarterBoards$Form", "base", "()LQuarterBoards$Shape;"⟩ ∈ gT := gT_at sub_5 146 rfl rfl
theorem ml_Cutter_54 : Cond.methodLink "QuarterBoards$Cutter" 54 ⟨"QuarterBoards$Shape", "copy", "(LQuarterBoards$Shape;)V"⟩ ∈ gT := gT_at sub_5 147 rfl rfl
theorem ml_Cutter_58 : Cond.methodLink "QuarterBoards$Cutter" 58 ⟨"QuarterBoards$Form", "imageThatIs", "(LQuarterBoards$Shape;)I"⟩ ∈ gT := gT_at sub_5 148 rfl rfl
theorem ml_Cutter_62 : Cond.methodLink "QuarterBoards$Cutter" 62 ⟨"QuarterBoards$Cutter", "remember", "(IIII)I"⟩ ∈ gT := gT_at sub_5 149 rfl rfl
theorem ml_Cutter_77 : Cond.methodLink "QuarterBoards$Cutter" 77 ⟨"QuarterBoards$Cutter", "lookWith", "(LQuarterBoards$Shape;ILQuarterBoards$Measure;)Z"⟩ ∈ gT := gT_at sub_5 153 rfl rfl
theorem ml_Cutter_81 : Cond.methodLink "QuarterBoards$Cutter" 81 ⟨"QuarterBoards$Cutter", "cuts", "(LQuarterBoards$Shape;IILQuarterBoards$Measure;)Z"⟩ ∈ gT := gT_at sub_5 157 rfl rfl
theorem ml_Cutter_85 : Cond.methodLink "QuarterBoards$Cutter" 85 ⟨"QuarterBoards$Shape", "becomeShifted", "(LQuarterBoards$Shape;II)V"⟩ ∈ gT := gT_at sub_5 161 rfl rfl
theorem ml_Cutter_89 : Cond.methodLink "QuarterBoards$Cutter" 89 ⟨"QuarterBoards$Shape", "keepCommon", "(LQuarterBoards$Shape;)V"⟩ ∈ gT := gT_at sub_5 162 rfl rfl
theorem ml_Cutter_92 : Cond.methodLink "QuarterBoards$Cutter" 92 ⟨"QuarterBoards$Shape", "isNothing", "()Z"⟩ ∈ gT := gT_at sub_5 163 rfl rfl
theorem ml_Cutter_96 : Cond.methodLink "QuarterBoards$Cutter" 96 ⟨"QuarterBoards$Shape", "takeAway", "(LQuarterBoards$Shape;)V"⟩ ∈ gT := gT_at sub_5 164 rfl rfl
theorem ml_Cutter_99 : Cond.methodLink "QuarterBoards$Cutter" 99 ⟨"QuarterBoards$Cutter", "haveLikeSides", "()Z"⟩ ∈ gT := gT_at sub_5 165 rfl rfl
theorem ml_Cutter_114 : Cond.methodLink "QuarterBoards$Cutter" 114 ⟨"QuarterBoards$Shape", "right", "()I"⟩ ∈ gT := gT_at sub_5 169 rfl rfl
theorem ml_Cutter_118 : Cond.methodLink "QuarterBoards$Cutter" 118 ⟨"QuarterBoards$Shape", "left", "()I"⟩ ∈ gT := gT_at sub_5 170 rfl rfl
theorem ml_Cutter_121 : Cond.methodLink "QuarterBoards$Cutter" 121 ⟨"QuarterBoards$Shape", "bottom", "()I"⟩ ∈ gT := gT_at sub_5 171 rfl rfl
theorem ml_Cutter_124 : Cond.methodLink "QuarterBoards$Cutter" 124 ⟨"QuarterBoards$Shape", "top", "()I"⟩ ∈ gT := gT_at sub_5 172 rfl rfl
theorem ml_Cutter_102 : Cond.methodLink "QuarterBoards$Cutter" 102 ⟨"QuarterBoards$Measure", "isOnePiece", "(LQuarterBoards$Shape;)Z"⟩ ∈ gT := gT_at sub_5 173 rfl rfl
theorem ml_Cutter_108 : Cond.methodLink "QuarterBoards$Cutter" 108 ⟨"QuarterBoards$Shape", "moveToBase", "()V"⟩ ∈ gT := gT_at sub_5 174 rfl rfl
theorem ml_Cutter_111 : Cond.methodLink "QuarterBoards$Cutter" 111 ⟨"QuarterBoards$Form", "tell", "(LQuarterBoards$Shape;)V"⟩ ∈ gT := gT_at sub_5 175 rfl rfl
theorem ml_Law_100 : Cond.methodLink "QuarterBoardsLaw" 100 ⟨"QuarterBoards", "part", "(I)I"⟩ ∈ gT := gT_at sub_5 176 rfl rfl
theorem ml_Q_223 : Cond.methodLink "QuarterBoards" 223 ⟨"QuarterBoards$Cutter", "partOf", "(I)I"⟩ ∈ gT := gT_at sub_5 180 rfl rfl
theorem ml_Cutter_127 : Cond.methodLink "QuarterBoards$Cutter" 127 ⟨"QuarterBoards$Shape", "holds", "(I)Z"⟩ ∈ gT := gT_at sub_5 184 rfl rfl
theorem ml_Law_104 : Cond.methodLink "QuarterBoardsLaw" 104 ⟨"QuarterBoards", "laid", "(I)I"⟩ ∈ gT := gT_at sub_5 185 rfl rfl
theorem ml_Q_226 : Cond.methodLink "QuarterBoards" 226 ⟨"QuarterBoards$Cutter", "tellLaid", "(I)I"⟩ ∈ gT := gT_at sub_5 189 rfl rfl
theorem ml_Law_108 : Cond.methodLink "QuarterBoardsLaw" 108 ⟨"QuarterBoards", "lay", "(IIII)I"⟩ ∈ gT := gT_at sub_5 193 rfl rfl
theorem ml_Q_229 : Cond.methodLink "QuarterBoards" 229 ⟨"QuarterBoards$Table", "holdsBoard", "(I)Z"⟩ ∈ gT := gT_at sub_5 197 rfl rfl
theorem ml_Q_232 : Cond.methodLink "QuarterBoards" 232 ⟨"QuarterBoards$Form", "staysOn", "(III)Z"⟩ ∈ gT := gT_at sub_5 201 rfl rfl
theorem ml_Q_236 : Cond.methodLink "QuarterBoards" 236 ⟨"QuarterBoards$Table", "put", "(ILQuarterBoards$Form;III)V"⟩ ∈ gT := gT_at sub_5 202 rfl rfl
theorem ml_Table_41 : Cond.methodLink "QuarterBoards$Table" 41 ⟨"QuarterBoards$Shape", "becomeShifted", "(LQuarterBoards$Shape;II)V"⟩ ∈ gT := gT_at sub_5 206 rfl rfl
theorem ml_Table_48 : Cond.methodLink "QuarterBoards$Table" 48 ⟨"QuarterBoards$Filler", "layCode", "(III)I"⟩ ∈ gT := gT_at sub_5 207 rfl rfl
theorem ml_Q_240 : Cond.methodLink "QuarterBoards" 240 ⟨"QuarterBoards$Table", "countLays", "()I"⟩ ∈ gT := gT_at sub_5 208 rfl rfl
theorem ml_Table_69 : Cond.methodLink "QuarterBoards$Table" 69 ⟨"QuarterBoards$Table", "boardsLaid", "()I"⟩ ∈ gT := gT_at sub_5 212 rfl rfl
theorem ml_Table_79 : Cond.methodLink "QuarterBoards$Table" 79 ⟨"QuarterBoards$Table", "holdsBoard", "(I)Z"⟩ ∈ gT := gT_at sub_5 216 rfl rfl
theorem ml_Table_73 : Cond.methodLink "QuarterBoards$Table" 73 ⟨"java/lang/Integer", "bitCount", "(I)I"⟩ ∈ gT := gT_at sub_5 217 rfl rfl
theorem ml_Law_113 : Cond.methodLink "QuarterBoardsLaw" 113 ⟨"QuarterBoards", "lift", "(I)Z"⟩ ∈ gT := gT_at sub_5 218 rfl rfl
theorem ml_Q_243 : Cond.methodLink "QuarterBoards" 243 ⟨"QuarterBoards$Table", "take", "(I)V"⟩ ∈ gT := gT_at sub_5 222 rfl rfl
theorem ml_Law_118 : Cond.methodLink "QuarterBoardsLaw" 118 ⟨"QuarterBoards", "covers", "(I)I"⟩ ∈ gT := gT_at sub_5 223 rfl rfl
theorem ml_Q_246 : Cond.methodLink "QuarterBoards" 246 ⟨"QuarterBoards$Table", "boardOn", "(I)I"⟩ ∈ gT := gT_at sub_5 227 rfl rfl
theorem ml_Table_83 : Cond.methodLink "QuarterBoards$Table" 83 ⟨"QuarterBoards$Shape", "holds", "(I)Z"⟩ ∈ gT := gT_at sub_5 231 rfl rfl
theorem ml_Law_122 : Cond.methodLink "QuarterBoardsLaw" 122 ⟨"QuarterBoards", "clashes", "()I"⟩ ∈ gT := gT_at sub_5 232 rfl rfl
theorem ml_Q_249 : Cond.methodLink "QuarterBoards" 249 ⟨"QuarterBoards$Table", "countClashes", "()I"⟩ ∈ gT := gT_at sub_5 236 rfl rfl
theorem ml_Table_90 : Cond.methodLink "QuarterBoards$Table" 90 ⟨"QuarterBoards$Shape", "copy", "(LQuarterBoards$Shape;)V"⟩ ∈ gT := gT_at sub_6 0 rfl rfl
theorem ml_Table_93 : Cond.methodLink "QuarterBoards$Table" 93 ⟨"QuarterBoards$Shape", "keepCommon", "(LQuarterBoards$Shape;)V"⟩ ∈ gT := gT_at sub_6 1 rfl rfl
theorem ml_Table_96 : Cond.methodLink "QuarterBoards$Table" 96 ⟨"QuarterBoards$Shape", "countQuarters", "()I"⟩ ∈ gT := gT_at sub_6 2 rfl rfl
theorem ml_Law_126 : Cond.methodLink "QuarterBoardsLaw" 126 ⟨"QuarterBoards", "claim", "(III)I"⟩ ∈ gT := gT_at sub_6 3 rfl rfl
theorem ml_Q_252 : Cond.methodLink "QuarterBoards" 252 ⟨"QuarterBoards$Book", "isFull", "()Z"⟩ ∈ gT := gT_at sub_6 7 rfl rfl
theorem ml_Q_255 : Cond.methodLink "QuarterBoards" 255 ⟨"QuarterBoards", "isPlayer", "(I)Z"⟩ ∈ gT := gT_at sub_6 11 rfl rfl
theorem ml_Q_258 : Cond.methodLink "QuarterBoards" 258 ⟨"QuarterBoards$Table", "judge", "(LQuarterBoards$Shape;I)I"⟩ ∈ gT := gT_at sub_6 14 rfl rfl
theorem ml_Table_99 : Cond.methodLink "QuarterBoards$Table" 99 ⟨"QuarterBoards$Table", "countClashes", "()I"⟩ ∈ gT := gT_at sub_6 18 rfl rfl
theorem ml_Table_102 : Cond.methodLink "QuarterBoards$Table" 102 ⟨"QuarterBoards$Shape", "takeAway", "(LQuarterBoards$Shape;)V"⟩ ∈ gT := gT_at sub_6 19 rfl rfl
theorem ml_Table_105 : Cond.methodLink "QuarterBoards$Table" 105 ⟨"QuarterBoards$Shape", "isNothing", "()Z"⟩ ∈ gT := gT_at sub_6 20 rfl rfl
theorem ml_Table_109 : Cond.methodLink "QuarterBoards$Table" 109 ⟨"QuarterBoards$Shape", "isSame", "(LQuarterBoards$Shape;)Z"⟩ ∈ gT := gT_at sub_6 21 rfl rfl
theorem ml_Q_262 : Cond.methodLink "QuarterBoards" 262 ⟨"QuarterBoards$Book", "enterClaim", "(IIIILQuarterBoards$Table;)I"⟩ ∈ gT := gT_at sub_6 22 rfl rfl
theorem ml_Book_36 : Cond.methodLink "QuarterBoards$Book" 36 ⟨"QuarterBoards$Table", "copyCodes", "([I)V"⟩ ∈ gT := gT_at sub_6 26 rfl rfl
theorem ml_Table_57 : Cond.methodLink "QuarterBoards$Table" 57 ⟨"java/lang/Math", "min", "(II)I"⟩ ∈ gT := gT_at sub_6 30 rfl rfl
theorem ml_Law_131 : Cond.methodLink "QuarterBoardsLaw" 131 ⟨"QuarterBoards", "annul", "(I)I"⟩ ∈ gT := gT_at sub_6 32 rfl rfl
theorem ml_Q_266 : Cond.methodLink "QuarterBoards" 266 ⟨"QuarterBoards$Book", "isClaim", "(I)Z"⟩ ∈ gT := gT_at sub_6 36 rfl rfl
theorem ml_Q_269 : Cond.methodLink "QuarterBoards" 269 ⟨"QuarterBoards$Book", "enterVoid", "(I)I"⟩ ∈ gT := gT_at sub_6 40 rfl rfl
theorem ml_Law_135 : Cond.methodLink "QuarterBoardsLaw" 135 ⟨"QuarterBoards", "verdict", "(I)I"⟩ ∈ gT := gT_at sub_6 44 rfl rfl
theorem ml_Law_139 : Cond.methodLink "QuarterBoardsLaw" 139 ⟨"QuarterBoards", "first", "(II)I"⟩ ∈ gT := gT_at sub_6 48 rfl rfl
theorem ml_Q_278 : Cond.methodLink "QuarterBoards" 278 ⟨"QuarterBoards$Book", "isKnownRight", "(II)Z"⟩ ∈ gT := gT_at sub_6 52 rfl rfl
theorem ml_Book_42 : Cond.methodLink "QuarterBoards$Book" 42 ⟨"QuarterBoards$Book", "isClaim", "(I)Z"⟩ ∈ gT := gT_at sub_6 56 rfl rfl
theorem ml_Q_282 : Cond.methodLink "QuarterBoards" 282 ⟨"QuarterBoards$Book", "firstSame", "(II)I"⟩ ∈ gT := gT_at sub_6 57 rfl rfl
theorem ml_Book_46 : Cond.methodLink "QuarterBoards$Book" 46 ⟨"QuarterBoards$Book", "isKnownRight", "(II)Z"⟩ ∈ gT := gT_at sub_6 61 rfl rfl
theorem ml_Book_50 : Cond.methodLink "QuarterBoards$Book" 50 ⟨"QuarterBoards$Book", "areSame", "(II)Z"⟩ ∈ gT := gT_at sub_6 62 rfl rfl
theorem ml_Law_143 : Cond.methodLink "QuarterBoardsLaw" 143 ⟨"QuarterBoards", "points", "(II)I"⟩ ∈ gT := gT_at sub_6 66 rfl rfl
theorem ml_Q_285 : Cond.methodLink "QuarterBoards" 285 ⟨"QuarterBoards$Book", "countPoints", "(II)I"⟩ ∈ gT := gT_at sub_6 70 rfl rfl
theorem ml_Book_53 : Cond.methodLink "QuarterBoards$Book" 53 ⟨"QuarterBoards$Book", "firstSame", "(II)I"⟩ ∈ gT := gT_at sub_6 74 rfl rfl
theorem ml_Law_147 : Cond.methodLink "QuarterBoardsLaw" 147 ⟨"QuarterBoards", "count", "(I)I"⟩ ∈ gT := gT_at sub_6 75 rfl rfl
theorem ml_Law_12 : Cond.methodLink "QuarterBoardsLaw" 12 ⟨"QuarterBoardsModel", "<init>", "()V"⟩ ∈ gT := gT_at sub_6 81 rfl rfl
theorem ml_Mo_7 : Cond.methodLink "QuarterBoardsModel" 7 ⟨"java/lang/Object", "<init>", "()V"⟩ ∈ gT := gT_at sub_6 84 rfl rfl
theorem ml_Mo_171 : Cond.methodLink "QuarterBoardsModel" 171 ⟨"QuarterBoardsModel", "word", "(IIIIIII)J"⟩ ∈ gT := gT_at sub_6 86 rfl rfl
theorem ml_Mo_187 : Cond.methodLink "QuarterBoardsModel" 187 ⟨"QuarterBoardsModel", "more", "(JI)J"⟩ ∈ gT := gT_at sub_6 89 rfl rfl
theorem ml_Law_17 : Cond.methodLink "QuarterBoardsLaw" 17 ⟨"QuarterBoardsModel", "feed", "(IIIII)I"⟩ ∈ gT := gT_at sub_7 93 rfl rfl
theorem ml_Mo_178 : Cond.methodLink "QuarterBoardsModel" 178 ⟨"QuarterBoardsModel", "put", "(I)V"⟩ ∈ gT := gT_at sub_7 97 rfl rfl
theorem ml_Law_22 : Cond.methodLink "QuarterBoardsLaw" 22 ⟨"QuarterBoardsModel", "back", "(I)I"⟩ ∈ gT := gT_at sub_7 101 rfl rfl
theorem ml_Law_27 : Cond.methodLink "QuarterBoardsLaw" 27 ⟨"QuarterBoardsModel", "read", "()I"⟩ ∈ gT := gT_at sub_7 105 rfl rfl
theorem ml_Mo_236 : Cond.methodLink "QuarterBoardsModel" 236 ⟨"QuarterBoardsModel", "cut", "()V"⟩ ∈ gT := gT_at sub_7 109 rfl rfl
theorem ml_Mo_194 : Cond.methodLink "QuarterBoardsModel" 194 ⟨"QuarterBoardsModel", "at", "(I)I"⟩ ∈ gT := gT_at sub_7 113 rfl rfl
theorem ml_Mo_198 : Cond.methodLink "QuarterBoardsModel" 198 ⟨"QuarterBoardsModel", "token", "(IIIJ)V"⟩ ∈ gT := gT_at sub_7 117 rfl rfl
theorem ml_Mo_202 : Cond.methodLink "QuarterBoardsModel" 202 ⟨"QuarterBoardsModel", "isLetter", "(I)Z"⟩ ∈ gT := gT_at sub_7 121 rfl rfl
theorem ml_Mo_206 : Cond.methodLink "QuarterBoardsModel" 206 ⟨"QuarterBoardsModel", "isDigit", "(I)Z"⟩ ∈ gT := gT_at sub_7 124 rfl rfl
theorem ml_Mo_209 : Cond.methodLink "QuarterBoardsModel" 209 ⟨"QuarterBoardsModel", "sign", "(I)I"⟩ ∈ gT := gT_at sub_7 127 rfl rfl
theorem ml_Mo_230 : Cond.methodLink "QuarterBoardsModel" 230 ⟨"QuarterBoardsModel", "is", "(I)Z"⟩ ∈ gT := gT_at sub_7 130 rfl rfl
theorem ml_Mo_254 : Cond.methodLink "QuarterBoardsModel" 254 ⟨"QuarterBoardsModel", "tellThing", "()V"⟩ ∈ gT := gT_at sub_7 134 rfl rfl
theorem ml_Mo_227 : Cond.methodLink "QuarterBoardsModel" 227 ⟨"QuarterBoardsModel", "fail", "(I)V"⟩ ∈ gT := gT_at sub_7 138 rfl rfl
theorem ml_Mo_233 : Cond.methodLink "QuarterBoardsModel" 233 ⟨"QuarterBoardsModel", "next", "()V"⟩ ∈ gT := gT_at sub_7 142 rfl rfl
theorem ml_Mo_263 : Cond.methodLink "QuarterBoardsModel" 263 ⟨"QuarterBoardsModel", "must", "(I)V"⟩ ∈ gT := gT_at sub_7 146 rfl rfl
theorem ml_Mo_266 : Cond.methodLink "QuarterBoardsModel" 266 ⟨"QuarterBoardsModel", "wrong", "(II)V"⟩ ∈ gT := gT_at sub_7 150 rfl rfl
theorem ml_Mo_270 : Cond.methodLink "QuarterBoardsModel" 270 ⟨"QuarterBoardsModel", "expression", "()V"⟩ ∈ gT := gT_at sub_7 154 rfl rfl
theorem ml_Mo_284 : Cond.methodLink "QuarterBoardsModel" 284 ⟨"QuarterBoardsModel", "waitsFor", "(IIII)V"⟩ ∈ gT := gT_at sub_7 158 rfl rfl
theorem ml_Mo_288 : Cond.methodLink "QuarterBoardsModel" 288 ⟨"QuarterBoardsModel", "signed", "()I"⟩ ∈ gT := gT_at sub_7 162 rfl rfl
theorem ml_Mo_276 : Cond.methodLink "QuarterBoardsModel" 276 ⟨"QuarterBoardsModel", "number", "(II)I"⟩ ∈ gT := gT_at sub_7 166 rfl rfl
theorem ml_Mo_292 : Cond.methodLink "QuarterBoardsModel" 292 ⟨"QuarterBoardsModel", "unit", "()V"⟩ ∈ gT := gT_at sub_7 170 rfl rfl
theorem ml_Mo_280 : Cond.methodLink "QuarterBoardsModel" 280 ⟨"QuarterBoardsModel", "emit", "(IIIIII)V"⟩ ∈ gT := gT_at sub_7 174 rfl rfl
theorem ml_Mo_295 : Cond.methodLink "QuarterBoardsModel" 295 ⟨"QuarterBoardsModel", "comesOut", "()V"⟩ ∈ gT := gT_at sub_7 178 rfl rfl
theorem ml_Mo_257 : Cond.methodLink "QuarterBoardsModel" 257 ⟨"QuarterBoardsModel", "work", "(I)V"⟩ ∈ gT := gT_at sub_7 182 rfl rfl
theorem ml_Mo_305 : Cond.methodLink "QuarterBoardsModel" 305 ⟨"QuarterBoardsModel", "lays", "(II)V"⟩ ∈ gT := gT_at sub_7 186 rfl rfl
theorem ml_Mo_321 : Cond.methodLink "QuarterBoardsModel" 321 ⟨"QuarterBoardsModel", "pageOf", "(I)I"⟩ ∈ gT := gT_at sub_7 190 rfl rfl
theorem ml_Mo_308 : Cond.methodLink "QuarterBoardsModel" 308 ⟨"QuarterBoardsModel", "copies", "(II)V"⟩ ∈ gT := gT_at sub_7 194 rfl rfl
theorem ml_Mo_298 : Cond.methodLink "QuarterBoardsModel" 298 ⟨"QuarterBoardsModel", "clears", "(I)V"⟩ ∈ gT := gT_at sub_7 198 rfl rfl
theorem ml_Mo_311 : Cond.methodLink "QuarterBoardsModel" 311 ⟨"QuarterBoardsModel", "turns", "(IIZ)V"⟩ ∈ gT := gT_at sub_7 202 rfl rfl
theorem ml_Mo_315 : Cond.methodLink "QuarterBoardsModel" 315 ⟨"QuarterBoardsModel", "bases", "(II)V"⟩ ∈ gT := gT_at sub_7 206 rfl rfl
theorem ml_Mo_301 : Cond.methodLink "QuarterBoardsModel" 301 ⟨"QuarterBoardsModel", "shifts", "(IIII)Z"⟩ ∈ gT := gT_at sub_7 210 rfl rfl
theorem ml_Mo_318 : Cond.methodLink "QuarterBoardsModel" 318 ⟨"QuarterBoardsModel", "comesWrong", "(II)V"⟩ ∈ gT := gT_at sub_7 214 rfl rfl
theorem ml_Mo_324 : Cond.methodLink "QuarterBoardsModel" 324 ⟨"QuarterBoardsModel", "areaOf", "(I)I"⟩ ∈ gT := gT_at sub_7 218 rfl rfl
theorem ml_Mo_260 : Cond.methodLink "QuarterBoardsModel" 260 ⟨"QuarterBoardsModel", "restarts", "()V"⟩ ∈ gT := gT_at sub_7 222 rfl rfl
theorem ml_Law_31 : Cond.methodLink "QuarterBoardsLaw" 31 ⟨"QuarterBoardsModel", "place", "()I"⟩ ∈ gT := gT_at sub_7 226 rfl rfl
theorem ml_Law_36 : Cond.methodLink "QuarterBoardsLaw" 36 ⟨"QuarterBoardsModel", "area", "(ZI)I"⟩ ∈ gT := gT_at sub_7 230 rfl rfl
theorem ml_Mo_348 : Cond.methodLink "QuarterBoardsModel" 348 ⟨"QuarterBoardsModel", "shape", "(ZI)I"⟩ ∈ gT := gT_at sub_7 234 rfl rfl
theorem ml_Law_41 : Cond.methodLink "QuarterBoardsLaw" 41 ⟨"QuarterBoardsModel", "has", "(ZII)I"⟩ ∈ gT := gT_at sub_7 238 rfl rfl
theorem ml_Mo_352 : Cond.methodLink "QuarterBoardsModel" 352 ⟨"QuarterBoardsModel", "isQuarter", "(I)Z"⟩ ∈ gT := gT_at sub_8 2 rfl rfl
theorem ml_Law_45 : Cond.methodLink "QuarterBoardsLaw" 45 ⟨"QuarterBoardsModel", "pieces", "(ZI)I"⟩ ∈ gT := gT_at sub_8 5 rfl rfl
theorem ml_Mo_355 : Cond.methodLink "QuarterBoardsModel" 355 ⟨"QuarterBoardsModel", "piecesOf", "(I)I"⟩ ∈ gT := gT_at sub_8 9 rfl rfl
theorem ml_Mo_338 : Cond.methodLink "QuarterBoardsModel" 338 ⟨"QuarterBoardsModel", "meets", "(II)V"⟩ ∈ gT := gT_at sub_8 13 rfl rfl
theorem ml_Law_50 : Cond.methodLink "QuarterBoardsLaw" 50 ⟨"QuarterBoardsModel", "corners", "(ZIZ)I"⟩ ∈ gT := gT_at sub_8 17 rfl rfl
theorem ml_Mo_358 : Cond.methodLink "QuarterBoardsModel" 358 ⟨"QuarterBoardsModel", "cornersOf", "(IZ)I"⟩ ∈ gT := gT_at sub_8 21 rfl rfl
theorem ml_Mo_341 : Cond.methodLink "QuarterBoardsModel" 341 ⟨"QuarterBoardsModel", "isIn", "(IIII)Z"⟩ ∈ gT := gT_at sub_8 25 rfl rfl
theorem ml_Mo_344 : Cond.methodLink "QuarterBoardsModel" 344 ⟨"QuarterBoardsModel", "cornersHere", "(IZ)I"⟩ ∈ gT := gT_at sub_8 29 rfl rfl
theorem ml_Law_54 : Cond.methodLink "QuarterBoardsLaw" 54 ⟨"QuarterBoardsModel", "bulges", "(ZI)I"⟩ ∈ gT := gT_at sub_8 33 rfl rfl
theorem ml_Law_58 : Cond.methodLink "QuarterBoardsLaw" 58 ⟨"QuarterBoardsModel", "images", "(ZI)I"⟩ ∈ gT := gT_at sub_8 37 rfl rfl
theorem ml_Mo_361 : Cond.methodLink "QuarterBoardsModel" 361 ⟨"QuarterBoardsModel", "leastSame", "(II)I"⟩ ∈ gT := gT_at sub_8 41 rfl rfl
theorem ml_Mo_327 : Cond.methodLink "QuarterBoardsModel" 327 ⟨"QuarterBoardsModel", "imaged", "(III)V"⟩ ∈ gT := gT_at sub_8 45 rfl rfl
theorem ml_Mo_331 : Cond.methodLink "QuarterBoardsModel" 331 ⟨"QuarterBoardsModel", "isSame", "(II)Z"⟩ ∈ gT := gT_at sub_8 49 rfl rfl
theorem ml_Law_62 : Cond.methodLink "QuarterBoardsLaw" 62 ⟨"QuarterBoardsModel", "least", "(ZII)I"⟩ ∈ gT := gT_at sub_8 53 rfl rfl
theorem ml_Law_67 : Cond.methodLink "QuarterBoardsLaw" 67 ⟨"QuarterBoardsModel", "alike", "(II)I"⟩ ∈ gT := gT_at sub_8 57 rfl rfl
theorem ml_Mo_364 : Cond.methodLink "QuarterBoardsModel" 364 ⟨"QuarterBoardsModel", "alikeBy", "(II)I"⟩ ∈ gT := gT_at sub_8 61 rfl rfl
theorem ml_Law_75 : Cond.methodLink "QuarterBoardsLaw" 75 ⟨"QuarterBoardsModel", "fill", "(II)I"⟩ ∈ gT := gT_at sub_8 65 rfl rfl
theorem ml_Mo_402 : Cond.methodLink "QuarterBoardsModel" 402 ⟨"QuarterBoardsModel", "isOutlineThere", "(I)Z"⟩ ∈ gT := gT_at sub_8 69 rfl rfl
theorem ml_Mo_405 : Cond.methodLink "QuarterBoardsModel" 405 ⟨"QuarterBoardsModel", "isSet", "(I)Z"⟩ ∈ gT := gT_at sub_8 73 rfl rfl
theorem ml_Mo_408 : Cond.methodLink "QuarterBoardsModel" 408 ⟨"QuarterBoardsModel", "looks", "(IIZ)V"⟩ ∈ gT := gT_at sub_8 77 rfl rfl
theorem ml_Mo_371 : Cond.methodLink "QuarterBoardsModel" 371 ⟨"QuarterBoardsModel", "readies", "()V"⟩ ∈ gT := gT_at sub_8 81 rfl rfl
theorem ml_Mo_383 : Cond.methodLink "QuarterBoardsModel" 383 ⟨"QuarterBoardsModel", "leastLeft", "()I"⟩ ∈ gT := gT_at sub_8 85 rfl rfl
theorem ml_Mo_386 : Cond.methodLink "QuarterBoardsModel" 386 ⟨"QuarterBoardsModel", "marks", "(IIZ)V"⟩ ∈ gT := gT_at sub_8 89 rfl rfl
theorem ml_Mo_389 : Cond.methodLink "QuarterBoardsModel" 389 ⟨"QuarterBoardsModel", "liesOn", "(II)Z"⟩ ∈ gT := gT_at sub_8 93 rfl rfl
theorem ml_Mo_393 : Cond.methodLink "QuarterBoardsModel" 393 ⟨"QuarterBoardsModel", "isFree", "(II)Z"⟩ ∈ gT := gT_at sub_8 98 rfl rfl
theorem ml_Mo_396 : Cond.methodLink "QuarterBoardsModel" 396 ⟨"QuarterBoardsModel", "remembers", "(I)V"⟩ ∈ gT := gT_at sub_8 102 rfl rfl
theorem ml_Law_79 : Cond.methodLink "QuarterBoardsLaw" 79 ⟨"QuarterBoardsModel", "filled", "(II)I"⟩ ∈ gT := gT_at sub_8 106 rfl rfl
theorem ml_Law_83 : Cond.methodLink "QuarterBoardsLaw" 83 ⟨"QuarterBoardsModel", "steps", "()I"⟩ ∈ gT := gT_at sub_8 110 rfl rfl
theorem ml_Law_87 : Cond.methodLink "QuarterBoardsLaw" 87 ⟨"QuarterBoardsModel", "sets", "(I)I"⟩ ∈ gT := gT_at sub_8 114 rfl rfl
theorem ml_Mo_420 : Cond.methodLink "QuarterBoardsModel" 420 ⟨"QuarterBoardsModel", "setsOf", "(II)I"⟩ ∈ gT := gT_at sub_8 118 rfl rfl
theorem ml_Law_91 : Cond.methodLink "QuarterBoardsLaw" 91 ⟨"QuarterBoardsModel", "set", "(II)I"⟩ ∈ gT := gT_at sub_8 122 rfl rfl
theorem ml_Law_95 : Cond.methodLink "QuarterBoardsLaw" 95 ⟨"QuarterBoardsModel", "needed", "(I)I"⟩ ∈ gT := gT_at sub_8 126 rfl rfl
theorem ml_Law_99 : Cond.methodLink "QuarterBoardsLaw" 99 ⟨"QuarterBoardsModel", "cut", "(II)I"⟩ ∈ gT := gT_at sub_8 130 rfl rfl
theorem ml_Mo_435 : Cond.methodLink "QuarterBoardsModel" 435 ⟨"QuarterBoardsModel", "parts", "(II)Z"⟩ ∈ gT := gT_at sub_8 134 rfl rfl
theorem ml_Law_103 : Cond.methodLink "QuarterBoardsLaw" 103 ⟨"QuarterBoardsModel", "part", "(I)I"⟩ ∈ gT := gT_at sub_8 138 rfl rfl
theorem ml_Law_107 : Cond.methodLink "QuarterBoardsLaw" 107 ⟨"QuarterBoardsModel", "laid", "(I)I"⟩ ∈ gT := gT_at sub_8 142 rfl rfl
theorem ml_Law_112 : Cond.methodLink "QuarterBoardsLaw" 112 ⟨"QuarterBoardsModel", "lay", "(IIII)I"⟩ ∈ gT := gT_at sub_8 146 rfl rfl
theorem ml_Mo_441 : Cond.methodLink "QuarterBoardsModel" 441 ⟨"QuarterBoardsModel", "laysThere", "()I"⟩ ∈ gT := gT_at sub_8 150 rfl rfl
theorem ml_Law_117 : Cond.methodLink "QuarterBoardsLaw" 117 ⟨"QuarterBoardsModel", "lift", "(I)Z"⟩ ∈ gT := gT_at sub_8 154 rfl rfl
theorem ml_Law_121 : Cond.methodLink "QuarterBoardsLaw" 121 ⟨"QuarterBoardsModel", "covers", "(I)I"⟩ ∈ gT := gT_at sub_8 158 rfl rfl
theorem ml_Law_125 : Cond.methodLink "QuarterBoardsLaw" 125 ⟨"QuarterBoardsModel", "clashes", "()I"⟩ ∈ gT := gT_at sub_8 162 rfl rfl
theorem ml_Mo_444 : Cond.methodLink "QuarterBoardsModel" 444 ⟨"QuarterBoardsModel", "layersAt", "(I)I"⟩ ∈ gT := gT_at sub_8 166 rfl rfl
theorem ml_Law_71 : Cond.methodLink "QuarterBoardsLaw" 71 ⟨"QuarterBoardsModel", "shows", "()I"⟩ ∈ gT := gT_at sub_8 170 rfl rfl
theorem ml_Law_130 : Cond.methodLink "QuarterBoardsLaw" 130 ⟨"QuarterBoardsModel", "claim", "(III)I"⟩ ∈ gT := gT_at sub_8 174 rfl rfl
theorem ml_Mo_450 : Cond.methodLink "QuarterBoardsModel" 450 ⟨"QuarterBoardsModel", "judge", "(II)I"⟩ ∈ gT := gT_at sub_8 178 rfl rfl
theorem ml_Mo_447 : Cond.methodLink "QuarterBoardsModel" 447 ⟨"QuarterBoardsModel", "clashes", "()I"⟩ ∈ gT := gT_at sub_8 182 rfl rfl
theorem ml_Law_134 : Cond.methodLink "QuarterBoardsLaw" 134 ⟨"QuarterBoardsModel", "annul", "(I)I"⟩ ∈ gT := gT_at sub_8 183 rfl rfl
theorem ml_Mo_453 : Cond.methodLink "QuarterBoardsModel" 453 ⟨"QuarterBoardsModel", "isClaim", "(I)Z"⟩ ∈ gT := gT_at sub_8 187 rfl rfl
theorem ml_Law_138 : Cond.methodLink "QuarterBoardsLaw" 138 ⟨"QuarterBoardsModel", "verdict", "(I)I"⟩ ∈ gT := gT_at sub_8 191 rfl rfl
theorem ml_Law_142 : Cond.methodLink "QuarterBoardsLaw" 142 ⟨"QuarterBoardsModel", "first", "(II)I"⟩ ∈ gT := gT_at sub_8 195 rfl rfl
theorem ml_Mo_456 : Cond.methodLink "QuarterBoardsModel" 456 ⟨"QuarterBoardsModel", "isRight", "(II)Z"⟩ ∈ gT := gT_at sub_8 199 rfl rfl
theorem ml_Mo_462 : Cond.methodLink "QuarterBoardsModel" 462 ⟨"QuarterBoardsModel", "firstOf", "(II)I"⟩ ∈ gT := gT_at sub_8 203 rfl rfl
theorem ml_Mo_459 : Cond.methodLink "QuarterBoardsModel" 459 ⟨"QuarterBoardsModel", "isLike", "(II)Z"⟩ ∈ gT := gT_at sub_8 207 rfl rfl
theorem ml_Law_146 : Cond.methodLink "QuarterBoardsLaw" 146 ⟨"QuarterBoardsModel", "points", "(II)I"⟩ ∈ gT := gT_at sub_8 211 rfl rfl
theorem ml_Law_150 : Cond.methodLink "QuarterBoardsLaw" 150 ⟨"QuarterBoardsModel", "count", "(I)I"⟩ ∈ gT := gT_at sub_8 215 rfl rfl
theorem kc_U16_227 : Cond.constant "java/lang/StringUTF16" 227 65536 ∈ gT := gT_at sub_3 86 rfl rfl
theorem kc_Chr_110 : Cond.constant "java/lang/Character" 110 55232 ∈ gT := gT_at sub_3 111 rfl rfl
theorem kc_Chr_76 : Cond.constant "java/lang/Character" 76 56320 ∈ gT := gT_at sub_3 115 rfl rfl
theorem kc_Integer_265 : Cond.constant "java/lang/Integer" 265 1431655765 ∈ gT := gT_at sub_4 114 rfl rfl
theorem kc_Integer_266 : Cond.constant "java/lang/Integer" 266 858993459 ∈ gT := gT_at sub_4 115 rfl rfl
theorem kc_Integer_267 : Cond.constant "java/lang/Integer" 267 252645135 ∈ gT := gT_at sub_4 116 rfl rfl
theorem kc_Filler_124 : Cond.constant "QuarterBoards$Filler" 124 60000 ∈ gT := gT_at sub_5 78 rfl rfl
theorem kc_Mo_167 : Cond.constant "QuarterBoardsModel" 167 122880 ∈ gT := gT_at sub_6 85 rfl rfl
theorem kc_Mo_392 : Cond.constant "QuarterBoardsModel" 392 60000 ∈ gT := gT_at sub_8 97 rfl rfl
theorem kl_Mo_185 : Cond.constantLong "QuarterBoardsModel" 185 27 ∈ gT := gT_at sub_6 92 rfl rfl
end
section
/-! ===== words of the printed functions, and calls in the forms that are printed ===== -/
def nm {α β : Type} (a : α) (f : α → β) : β := f a
theorem nm_s {α β : Type} {a : α} {f : α → β} {z : β} (h : nm a f = z) : ∃ x, x = a ∧ f x = z := ⟨a, rfl, h⟩
def og {β : Type} (ci a : Nat) (M : MM) (b : Option β) : Option β := if (M.1.2.1 a).1 = ci then b else none
theorem og_s {β : Type} {ci a : Nat} {M : MM} {b : Option β} {z : β} (h : og ci a M b = some z) : (M.1.2.1 a).1 = ci ∧ b = some z := by
  unfold og at h; split at h
  · next hc => exact ⟨hc, h⟩
  · cases h
theorem og_t {β : Type} {ci a : Nat} {M : MM} {b : Option β} (h : (M.1.2.1 a).1 = ci) : og ci a M b = b := if_pos h
def ob {β : Type} (o : Option Nat) (a : β) (f : Nat → β) : β := match o with
  | none => a
  | some r => f r
theorem ob_s {β : Type} {o : Option Nat} {a z : β} {f : Nat → β} (h : ob o a f = z) : (o = none ∧ a = z) ∨ ∃ r, o = some r ∧ f r = z := by
  cases o with
  | none => exact Or.inl ⟨rfl, h⟩
  | some r => exact Or.inr ⟨r, rfl, h⟩
theorem bnd {α β : Type} {o : Option α} {f : α → Option β} {z : β} (h : o.bind f = some z) : ∃ a, o = some a ∧ f a = some z := by
  cases o with
  | none => cases h
  | some a => exact ⟨a, rfl, h⟩
theorem ift {β : Type} {c : Prop} [Decidable c] {a b z : β} (hc : c) (h : (if c then a else b) = z) : a = z := by rw [if_pos hc] at h; exact h
theorem ifn {β : Type} {c : Prop} [Decidable c] {a b z : β} (hc : ¬ c) (h : (if c then a else b) = z) : b = z := by rw [if_neg hc] at h; exact h
def zg {β : Type} (v : Int32) (b : Option β) : Option β := if v &&& 1 = v then b else none
theorem zg_s {β : Type} {v : Int32} {b : Option β} {z : β} (h : zg v b = some z) : v &&& 1 = v ∧ b = some z := by
  unfold zg at h; split at h
  · next hc => exact ⟨hc, h⟩
  · cases h
def dg {β : Type} (y : Int32) (b : Option β) : Option β := if y = 0 then none else b
theorem dg_s {β : Type} {v : Int32} {b : Option β} {z : β} (h : dg v b = some z) : ¬ v = 0 ∧ b = some z := by
  unfold dg at h; split at h
  · cases h
  · next hc => exact ⟨hc, h⟩
theorem rm_fr {d1 d c s c1 s1 : Nat} (h : d1 + 1 ≤ d) : (rm d1 c1 s1).frames + 1 ≤ (rm d c s).frames := h
theorem rm_lo {d1 d c s c1 s1 ml : Nat} (h : d1 + 1 ≤ d) (hm : ml ≤ 45) : 8 + (ml + 11) + (rm d1 c1 s1).locals ≤ (rm d c s).locals := by
  show 8 + (ml + 11) + 64 * d1 ≤ 64 * d
  omega
section PCALLS
variable {mt mt1 : MT} {d d1 c9 s9 : Nat} {res : Option Value} {M' : MM} {k n pc p2 : Nat} {ls : Lv} {st0 : List Value} {M M1 : MM} {As : List Value} {b ci ix np : Nat}
theorem e_cV {res1 : Option Value} {st : List Value} (h : DC mt pc (.invokevirtual ix) 3 p2) (hlk : Cond.methodLink mt.1.cls ix mt1.1 ∈ gT) (hm : MV mt1 np) (hc : CT mt1 (rm d1 0 0) (.ref b :: As) M res1 M1)
    (hb : (M.1.2.1 b).1 = ci) (hst : As.reverse ++ .ref b :: st = st0) (hnp : As.length = np) (hci : (classes[ci]?).map (fun q => q.1) = some mt1.1.cls) (hcat : (st.map fun v => v.category).sum ≤ 8) (hd : d1 + 1 ≤ d) (hml : mt1.2.2.1 ≤ 45) (hk : k ≤ c9) (hn : n ≤ s9)
    (nx : EV mt (rm d c9 s9) res M' k n p2 ls (res1.toList ++ st) M1) : EV mt (rm d c9 s9) res M' k n pc ls st0 M :=
  e_callV h hlk hm hc hst hnp hb hci hcat (rm_fr hd) (rm_lo hd hml) hk hn nx
theorem e_cVi {v : Int32} {st : List Value} (h : DC mt pc (.invokevirtual ix) 3 p2) (hlk : Cond.methodLink mt.1.cls ix mt1.1 ∈ gT) (hm : MV mt1 np) (hc : CT mt1 (rm d1 0 0) (.ref b :: As) M (some (.int v)) M1)
    (hb : (M.1.2.1 b).1 = ci) (hst : As.reverse ++ .ref b :: st = st0) (hnp : As.length = np) (hci : (classes[ci]?).map (fun q => q.1) = some mt1.1.cls) (hcat : (st.map fun v => v.category).sum ≤ 8) (hd : d1 + 1 ≤ d) (hml : mt1.2.2.1 ≤ 45) (hk : k ≤ c9) (hn : n ≤ s9)
    (nx : EV mt (rm d c9 s9) res M' k n p2 ls (.int v :: st) M1) : EV mt (rm d c9 s9) res M' k n pc ls st0 M := e_cV h hlk hm hc hb hst hnp hci hcat hd hml hk hn nx
theorem e_cVl {v : Int64} {st : List Value} (h : DC mt pc (.invokevirtual ix) 3 p2) (hlk : Cond.methodLink mt.1.cls ix mt1.1 ∈ gT) (hm : MV mt1 np) (hc : CT mt1 (rm d1 0 0) (.ref b :: As) M (some (.long v)) M1)
    (hb : (M.1.2.1 b).1 = ci) (hst : As.reverse ++ .ref b :: st = st0) (hnp : As.length = np) (hci : (classes[ci]?).map (fun q => q.1) = some mt1.1.cls) (hcat : (st.map fun v => v.category).sum ≤ 8) (hd : d1 + 1 ≤ d) (hml : mt1.2.2.1 ≤ 45) (hk : k ≤ c9) (hn : n ≤ s9)
    (nx : EV mt (rm d c9 s9) res M' k n p2 ls (.long v :: st) M1) : EV mt (rm d c9 s9) res M' k n pc ls st0 M := e_cV h hlk hm hc hb hst hnp hci hcat hd hml hk hn nx
theorem e_cVr {v : Option Nat} {st : List Value} (h : DC mt pc (.invokevirtual ix) 3 p2) (hlk : Cond.methodLink mt.1.cls ix mt1.1 ∈ gT) (hm : MV mt1 np) (hc : CT mt1 (rm d1 0 0) (.ref b :: As) M (some (vr v)) M1)
    (hb : (M.1.2.1 b).1 = ci) (hst : As.reverse ++ .ref b :: st = st0) (hnp : As.length = np) (hci : (classes[ci]?).map (fun q => q.1) = some mt1.1.cls) (hcat : (st.map fun v => v.category).sum ≤ 8) (hd : d1 + 1 ≤ d) (hml : mt1.2.2.1 ≤ 45) (hk : k ≤ c9) (hn : n ≤ s9)
    (nx : EV mt (rm d c9 s9) res M' k n p2 ls (vr v :: st) M1) : EV mt (rm d c9 s9) res M' k n pc ls st0 M := e_cV h hlk hm hc hb hst hnp hci hcat hd hml hk hn nx
theorem e_cVv {st : List Value} (h : DC mt pc (.invokevirtual ix) 3 p2) (hlk : Cond.methodLink mt.1.cls ix mt1.1 ∈ gT) (hm : MV mt1 np) (hc : CT mt1 (rm d1 0 0) (.ref b :: As) M none M1)
    (hb : (M.1.2.1 b).1 = ci) (hst : As.reverse ++ .ref b :: st = st0) (hnp : As.length = np) (hci : (classes[ci]?).map (fun q => q.1) = some mt1.1.cls) (hcat : (st.map fun v => v.category).sum ≤ 8) (hd : d1 + 1 ≤ d) (hml : mt1.2.2.1 ≤ 45) (hk : k ≤ c9) (hn : n ≤ s9)
    (nx : EV mt (rm d c9 s9) res M' k n p2 ls st M1) : EV mt (rm d c9 s9) res M' k n pc ls st0 M := e_cV h hlk hm hc hb hst hnp hci hcat hd hml hk hn nx
theorem e_cS {res1 : Option Value} {st : List Value} (h : DC mt pc (.invokestatic ix) 3 p2) (hlk : Cond.methodLink mt.1.cls ix mt1.1 ∈ gT) (hm : MS mt1 np) (hc : CT mt1 (rm d1 0 0) As M res1 M1)
    (hst : As.reverse ++ st = st0) (hnp : As.length = np) (hcat : (st.map fun v => v.category).sum ≤ 8) (hd : d1 + 1 ≤ d) (hml : mt1.2.2.1 ≤ 45) (hk : k ≤ c9) (hn : n ≤ s9)
    (nx : EV mt (rm d c9 s9) res M' k n p2 ls (res1.toList ++ st) M1) : EV mt (rm d c9 s9) res M' k n pc ls st0 M :=
  e_callS h hlk hm hc hst hnp hcat (rm_fr hd) (rm_lo hd hml) hk hn nx
theorem e_cSi {v : Int32} {st : List Value} (h : DC mt pc (.invokestatic ix) 3 p2) (hlk : Cond.methodLink mt.1.cls ix mt1.1 ∈ gT) (hm : MS mt1 np) (hc : CT mt1 (rm d1 0 0) As M (some (.int v)) M1)
    (hst : As.reverse ++ st = st0) (hnp : As.length = np) (hcat : (st.map fun v => v.category).sum ≤ 8) (hd : d1 + 1 ≤ d) (hml : mt1.2.2.1 ≤ 45) (hk : k ≤ c9) (hn : n ≤ s9)
    (nx : EV mt (rm d c9 s9) res M' k n p2 ls (.int v :: st) M1) : EV mt (rm d c9 s9) res M' k n pc ls st0 M := e_cS h hlk hm hc hst hnp hcat hd hml hk hn nx
theorem e_cSl {v : Int64} {st : List Value} (h : DC mt pc (.invokestatic ix) 3 p2) (hlk : Cond.methodLink mt.1.cls ix mt1.1 ∈ gT) (hm : MS mt1 np) (hc : CT mt1 (rm d1 0 0) As M (some (.long v)) M1)
    (hst : As.reverse ++ st = st0) (hnp : As.length = np) (hcat : (st.map fun v => v.category).sum ≤ 8) (hd : d1 + 1 ≤ d) (hml : mt1.2.2.1 ≤ 45) (hk : k ≤ c9) (hn : n ≤ s9)
    (nx : EV mt (rm d c9 s9) res M' k n p2 ls (.long v :: st) M1) : EV mt (rm d c9 s9) res M' k n pc ls st0 M := e_cS h hlk hm hc hst hnp hcat hd hml hk hn nx
theorem e_cSv {st : List Value} (h : DC mt pc (.invokestatic ix) 3 p2) (hlk : Cond.methodLink mt.1.cls ix mt1.1 ∈ gT) (hm : MS mt1 np) (hc : CT mt1 (rm d1 0 0) As M none M1)
    (hst : As.reverse ++ st = st0) (hnp : As.length = np) (hcat : (st.map fun v => v.category).sum ≤ 8) (hd : d1 + 1 ≤ d) (hml : mt1.2.2.1 ≤ 45) (hk : k ≤ c9) (hn : n ≤ s9)
    (nx : EV mt (rm d c9 s9) res M' k n p2 ls st M1) : EV mt (rm d c9 s9) res M' k n pc ls st0 M := e_cS h hlk hm hc hst hnp hcat hd hml hk hn nx
end PCALLS
theorem okp : ∀ {a b : Nat}, Nat.ble a b = true → a ≤ b := fun h => Nat.le_of_ble_eq_true h
theorem okl {a b : Nat} (h : Nat.ble (a + 1) b = true) : a < b := Nat.le_of_ble_eq_true h
end
