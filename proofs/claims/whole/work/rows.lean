section
-- ===== PART A: goes FIRST, ahead of the names: the tables' words, and 'selects' of the private methods out of them =====
/-- a private method of a class that the tables say can be made, by its rows of tables_1 -/
def lw_okq (q : MethodName × Nat) : Prop := (q.1.cls ≠ "java/lang/invoke/MethodHandle" ∧ q.1.cls ≠ "java/lang/invoke/VarHandle") ∧ Cond.instantiable q.1.cls q.2 ∈ tables_1 ∧ Cond.privateMethod q.1 ∈ tables_1 ∧ Cond.instanceMethod q.1 ∈ tables_1
theorem lw_p0 : lw_okq (⟨"QuarterBoards", "appendBytes", "(I)V"⟩, 17) := ⟨⟨by decide +kernel, by decide +kernel⟩, List.mem_of_getElem? (i := 23) (by decide +kernel), List.mem_of_getElem? (i := 486) (by decide +kernel), List.mem_of_getElem? (i := 487) (by decide +kernel)⟩
theorem lw_p1 : lw_okq (⟨"QuarterBoards$Tokens", "scanLetters", "([BII)I"⟩, 8) := ⟨⟨by decide +kernel, by decide +kernel⟩, List.mem_of_getElem? (i := 33) (by decide +kernel), List.mem_of_getElem? (i := 511) (by decide +kernel), List.mem_of_getElem? (i := 512) (by decide +kernel)⟩
theorem lw_p2 : lw_okq (⟨"QuarterBoards$Tokens", "kindOfWord", "(J)I"⟩, 8) := ⟨⟨by decide +kernel, by decide +kernel⟩, List.mem_of_getElem? (i := 33) (by decide +kernel), List.mem_of_getElem? (i := 515) (by decide +kernel), List.mem_of_getElem? (i := 516) (by decide +kernel)⟩
theorem lw_p3 : lw_okq (⟨"QuarterBoards$Tokens", "add", "(IIJ)V"⟩, 8) := ⟨⟨by decide +kernel, by decide +kernel⟩, List.mem_of_getElem? (i := 33) (by decide +kernel), List.mem_of_getElem? (i := 519) (by decide +kernel), List.mem_of_getElem? (i := 520) (by decide +kernel)⟩
theorem lw_p4 : lw_okq (⟨"QuarterBoards$Tokens", "scanDigits", "([BII)I"⟩, 8) := ⟨⟨by decide +kernel, by decide +kernel⟩, List.mem_of_getElem? (i := 33) (by decide +kernel), List.mem_of_getElem? (i := 526) (by decide +kernel), List.mem_of_getElem? (i := 527) (by decide +kernel)⟩
theorem lw_p5 : lw_okq (⟨"QuarterBoards$Syntax", "next", "(I)I"⟩, 5) := ⟨⟨by decide +kernel, by decide +kernel⟩, List.mem_of_getElem? (i := 117) (by decide +kernel), List.mem_of_getElem? (i := 605) (by decide +kernel), List.mem_of_getElem? (i := 606) (by decide +kernel)⟩
theorem lw_p6 : lw_okq (⟨"QuarterBoards$Syntax", "behindTelling", "(I)I"⟩, 5) := ⟨⟨by decide +kernel, by decide +kernel⟩, List.mem_of_getElem? (i := 117) (by decide +kernel), List.mem_of_getElem? (i := 609) (by decide +kernel), List.mem_of_getElem? (i := 610) (by decide +kernel)⟩
theorem lw_p7 : lw_okq (⟨"QuarterBoards$Syntax", "inPart", "(I)I"⟩, 5) := ⟨⟨by decide +kernel, by decide +kernel⟩, List.mem_of_getElem? (i := 117) (by decide +kernel), List.mem_of_getElem? (i := 613) (by decide +kernel), List.mem_of_getElem? (i := 614) (by decide +kernel)⟩
theorem lw_p8 : lw_okq (⟨"QuarterBoards$Syntax", "behindShiftNumber", "(I)I"⟩, 5) := ⟨⟨by decide +kernel, by decide +kernel⟩, List.mem_of_getElem? (i := 117) (by decide +kernel), List.mem_of_getElem? (i := 617) (by decide +kernel), List.mem_of_getElem? (i := 618) (by decide +kernel)⟩
theorem lw_p9 : lw_okq (⟨"QuarterBoards$Syntax", "behindUnitNumber", "(I)I"⟩, 5) := ⟨⟨by decide +kernel, by decide +kernel⟩, List.mem_of_getElem? (i := 117) (by decide +kernel), List.mem_of_getElem? (i := 621) (by decide +kernel), List.mem_of_getElem? (i := 622) (by decide +kernel)⟩
theorem lw_p10 : lw_okq (⟨"QuarterBoards$Syntax", "behindUnit", "(I)I"⟩, 5) := ⟨⟨by decide +kernel, by decide +kernel⟩, List.mem_of_getElem? (i := 117) (by decide +kernel), List.mem_of_getElem? (i := 625) (by decide +kernel), List.mem_of_getElem? (i := 626) (by decide +kernel)⟩
theorem lw_p11 : lw_okq (⟨"QuarterBoards$Syntax", "lacksRoom", "()Z"⟩, 5) := ⟨⟨by decide +kernel, by decide +kernel⟩, List.mem_of_getElem? (i := 117) (by decide +kernel), List.mem_of_getElem? (i := 637) (by decide +kernel), List.mem_of_getElem? (i := 638) (by decide +kernel)⟩
theorem lw_p12 : lw_okq (⟨"QuarterBoards$Meaning", "faultAt", "(LQuarterBoards$Tokens;I)I"⟩, 7) := ⟨⟨by decide +kernel, by decide +kernel⟩, List.mem_of_getElem? (i := 139) (by decide +kernel), List.mem_of_getElem? (i := 645) (by decide +kernel), List.mem_of_getElem? (i := 646) (by decide +kernel)⟩
theorem lw_p13 : lw_okq (⟨"QuarterBoards$Meaning", "openNameFault", "(J)I"⟩, 7) := ⟨⟨by decide +kernel, by decide +kernel⟩, List.mem_of_getElem? (i := 139) (by decide +kernel), List.mem_of_getElem? (i := 657) (by decide +kernel), List.mem_of_getElem? (i := 658) (by decide +kernel)⟩
theorem lw_p14 : lw_okq (⟨"QuarterBoards$Meaning", "isTold", "(J)Z"⟩, 7) := ⟨⟨by decide +kernel, by decide +kernel⟩, List.mem_of_getElem? (i := 139) (by decide +kernel), List.mem_of_getElem? (i := 661) (by decide +kernel), List.mem_of_getElem? (i := 662) (by decide +kernel)⟩
theorem lw_p15 : lw_okq (⟨"QuarterBoards$Meaning", "usedNameFault", "(J)I"⟩, 7) := ⟨⟨by decide +kernel, by decide +kernel⟩, List.mem_of_getElem? (i := 139) (by decide +kernel), List.mem_of_getElem? (i := 665) (by decide +kernel), List.mem_of_getElem? (i := 666) (by decide +kernel)⟩
def lw_privs_1 : List (MethodName × Nat) := [(⟨"QuarterBoards", "appendBytes", "(I)V"⟩, 17), (⟨"QuarterBoards$Tokens", "scanLetters", "([BII)I"⟩, 8), (⟨"QuarterBoards$Tokens", "kindOfWord", "(J)I"⟩, 8), (⟨"QuarterBoards$Tokens", "add", "(IIJ)V"⟩, 8), (⟨"QuarterBoards$Tokens", "scanDigits", "([BII)I"⟩, 8), (⟨"QuarterBoards$Syntax", "next", "(I)I"⟩, 5), (⟨"QuarterBoards$Syntax", "behindTelling", "(I)I"⟩, 5), (⟨"QuarterBoards$Syntax", "inPart", "(I)I"⟩, 5), (⟨"QuarterBoards$Syntax", "behindShiftNumber", "(I)I"⟩, 5), (⟨"QuarterBoards$Syntax", "behindUnitNumber", "(I)I"⟩, 5), (⟨"QuarterBoards$Syntax", "behindUnit", "(I)I"⟩, 5), (⟨"QuarterBoards$Syntax", "lacksRoom", "()Z"⟩, 5), (⟨"QuarterBoards$Meaning", "faultAt", "(LQuarterBoards$Tokens;I)I"⟩, 7), (⟨"QuarterBoards$Meaning", "openNameFault", "(J)I"⟩, 7), (⟨"QuarterBoards$Meaning", "isTold", "(J)Z"⟩, 7), (⟨"QuarterBoards$Meaning", "usedNameFault", "(J)I"⟩, 7)]
theorem lw_r1 : ∀ q ∈ lw_privs_1, lw_okq q := List.forall_mem_cons.mpr ⟨lw_p0, List.forall_mem_cons.mpr ⟨lw_p1, List.forall_mem_cons.mpr ⟨lw_p2, List.forall_mem_cons.mpr ⟨lw_p3, List.forall_mem_cons.mpr ⟨lw_p4, List.forall_mem_cons.mpr ⟨lw_p5, List.forall_mem_cons.mpr ⟨lw_p6, List.forall_mem_cons.mpr ⟨lw_p7, List.forall_mem_cons.mpr ⟨lw_p8, List.forall_mem_cons.mpr ⟨lw_p9, List.forall_mem_cons.mpr ⟨lw_p10, List.forall_mem_cons.mpr ⟨lw_p11, List.forall_mem_cons.mpr ⟨lw_p12, List.forall_mem_cons.mpr ⟨lw_p13, List.forall_mem_cons.mpr ⟨lw_p14, List.forall_mem_cons.mpr ⟨lw_p15, fun _ h => absurd h List.not_mem_nil⟩⟩⟩⟩⟩⟩⟩⟩⟩⟩⟩⟩⟩⟩⟩⟩
theorem lw_p16 : lw_okq (⟨"QuarterBoards$Meaning", "numberFault", "(I)I"⟩, 7) := ⟨⟨by decide +kernel, by decide +kernel⟩, List.mem_of_getElem? (i := 139) (by decide +kernel), List.mem_of_getElem? (i := 669) (by decide +kernel), List.mem_of_getElem? (i := 670) (by decide +kernel)⟩
theorem lw_p17 : lw_okq (⟨"QuarterBoards$Meaning", "leastNumber", "(I)I"⟩, 7) := ⟨⟨by decide +kernel, by decide +kernel⟩, List.mem_of_getElem? (i := 139) (by decide +kernel), List.mem_of_getElem? (i := 673) (by decide +kernel), List.mem_of_getElem? (i := 674) (by decide +kernel)⟩
theorem lw_p18 : lw_okq (⟨"QuarterBoards$Meaning", "mostNumber", "(I)I"⟩, 7) := ⟨⟨by decide +kernel, by decide +kernel⟩, List.mem_of_getElem? (i := 139) (by decide +kernel), List.mem_of_getElem? (i := 677) (by decide +kernel), List.mem_of_getElem? (i := 678) (by decide +kernel)⟩
theorem lw_p19 : lw_okq (⟨"QuarterBoards$Meaning", "closeName", "()V"⟩, 7) := ⟨⟨by decide +kernel, by decide +kernel⟩, List.mem_of_getElem? (i := 139) (by decide +kernel), List.mem_of_getElem? (i := 681) (by decide +kernel), List.mem_of_getElem? (i := 682) (by decide +kernel)⟩
theorem lw_p20 : lw_okq (⟨"QuarterBoards$Builder", "sumUp", "(I)V"⟩, 11) := ⟨⟨by decide +kernel, by decide +kernel⟩, List.mem_of_getElem? (i := 167) (by decide +kernel), List.mem_of_getElem? (i := 692) (by decide +kernel), List.mem_of_getElem? (i := 693) (by decide +kernel)⟩
theorem lw_p21 : lw_okq (⟨"QuarterBoards$Builder", "makePart", "(I)V"⟩, 11) := ⟨⟨by decide +kernel, by decide +kernel⟩, List.mem_of_getElem? (i := 167) (by decide +kernel), List.mem_of_getElem? (i := 696) (by decide +kernel), List.mem_of_getElem? (i := 697) (by decide +kernel)⟩
theorem lw_p22 : lw_okq (⟨"QuarterBoards$Builder", "openWord", "()V"⟩, 11) := ⟨⟨by decide +kernel, by decide +kernel⟩, List.mem_of_getElem? (i := 167) (by decide +kernel), List.mem_of_getElem? (i := 703) (by decide +kernel), List.mem_of_getElem? (i := 704) (by decide +kernel)⟩
theorem lw_p23 : lw_okq (⟨"QuarterBoards$Builder", "behindNumber", "(I)I"⟩, 11) := ⟨⟨by decide +kernel, by decide +kernel⟩, List.mem_of_getElem? (i := 167) (by decide +kernel), List.mem_of_getElem? (i := 707) (by decide +kernel), List.mem_of_getElem? (i := 708) (by decide +kernel)⟩
theorem lw_p24 : lw_okq (⟨"QuarterBoards$Builder", "makeUnit", "(I)V"⟩, 11) := ⟨⟨by decide +kernel, by decide +kernel⟩, List.mem_of_getElem? (i := 167) (by decide +kernel), List.mem_of_getElem? (i := 711) (by decide +kernel), List.mem_of_getElem? (i := 712) (by decide +kernel)⟩
theorem lw_p25 : lw_okq (⟨"QuarterBoards$Builder", "copyNamed", "(LQuarterBoards$Shape;J)V"⟩, 11) := ⟨⟨by decide +kernel, by decide +kernel⟩, List.mem_of_getElem? (i := 167) (by decide +kernel), List.mem_of_getElem? (i := 719) (by decide +kernel), List.mem_of_getElem? (i := 720) (by decide +kernel)⟩
theorem lw_p26 : lw_okq (⟨"QuarterBoards$Builder", "makeCells", "(LQuarterBoards$Shape;I)V"⟩, 11) := ⟨⟨by decide +kernel, by decide +kernel⟩, List.mem_of_getElem? (i := 167) (by decide +kernel), List.mem_of_getElem? (i := 727) (by decide +kernel), List.mem_of_getElem? (i := 728) (by decide +kernel)⟩
theorem lw_p27 : lw_okq (⟨"QuarterBoards$Builder", "numberAt", "(I)I"⟩, 11) := ⟨⟨by decide +kernel, by decide +kernel⟩, List.mem_of_getElem? (i := 167) (by decide +kernel), List.mem_of_getElem? (i := 731) (by decide +kernel), List.mem_of_getElem? (i := 732) (by decide +kernel)⟩
theorem lw_p28 : lw_okq (⟨"QuarterBoards$Builder", "doWord", "(ILQuarterBoards$Shape;)V"⟩, 11) := ⟨⟨by decide +kernel, by decide +kernel⟩, List.mem_of_getElem? (i := 167) (by decide +kernel), List.mem_of_getElem? (i := 742) (by decide +kernel), List.mem_of_getElem? (i := 743) (by decide +kernel)⟩
theorem lw_p29 : lw_okq (⟨"QuarterBoards$Shape", "columns", "()I"⟩, 1) := ⟨⟨by decide +kernel, by decide +kernel⟩, List.mem_of_getElem? (i := 174) (by decide +kernel), List.mem_of_getElem? (i := 768) (by decide +kernel), List.mem_of_getElem? (i := 769) (by decide +kernel)⟩
theorem lw_p30 : lw_okq (⟨"QuarterBoards", "takeOver", "()V"⟩, 17) := ⟨⟨by decide +kernel, by decide +kernel⟩, List.mem_of_getElem? (i := 23) (by decide +kernel), List.mem_of_getElem? (i := 819) (by decide +kernel), List.mem_of_getElem? (i := 820) (by decide +kernel)⟩
theorem lw_p31 : lw_okq (⟨"QuarterBoards$Form", "makeImage", "(I)V"⟩, 7) := ⟨⟨by decide +kernel, by decide +kernel⟩, List.mem_of_getElem? (i := 297) (by decide +kernel), List.mem_of_getElem? (i := 838) (by decide +kernel), List.mem_of_getElem? (i := 839) (by decide +kernel)⟩
def lw_privs_2 : List (MethodName × Nat) := [(⟨"QuarterBoards$Meaning", "numberFault", "(I)I"⟩, 7), (⟨"QuarterBoards$Meaning", "leastNumber", "(I)I"⟩, 7), (⟨"QuarterBoards$Meaning", "mostNumber", "(I)I"⟩, 7), (⟨"QuarterBoards$Meaning", "closeName", "()V"⟩, 7), (⟨"QuarterBoards$Builder", "sumUp", "(I)V"⟩, 11), (⟨"QuarterBoards$Builder", "makePart", "(I)V"⟩, 11), (⟨"QuarterBoards$Builder", "openWord", "()V"⟩, 11), (⟨"QuarterBoards$Builder", "behindNumber", "(I)I"⟩, 11), (⟨"QuarterBoards$Builder", "makeUnit", "(I)V"⟩, 11), (⟨"QuarterBoards$Builder", "copyNamed", "(LQuarterBoards$Shape;J)V"⟩, 11), (⟨"QuarterBoards$Builder", "makeCells", "(LQuarterBoards$Shape;I)V"⟩, 11), (⟨"QuarterBoards$Builder", "numberAt", "(I)I"⟩, 11), (⟨"QuarterBoards$Builder", "doWord", "(ILQuarterBoards$Shape;)V"⟩, 11), (⟨"QuarterBoards$Shape", "columns", "()I"⟩, 1), (⟨"QuarterBoards", "takeOver", "()V"⟩, 17), (⟨"QuarterBoards$Form", "makeImage", "(I)V"⟩, 7)]
theorem lw_r2 : ∀ q ∈ lw_privs_2, lw_okq q := List.forall_mem_cons.mpr ⟨lw_p16, List.forall_mem_cons.mpr ⟨lw_p17, List.forall_mem_cons.mpr ⟨lw_p18, List.forall_mem_cons.mpr ⟨lw_p19, List.forall_mem_cons.mpr ⟨lw_p20, List.forall_mem_cons.mpr ⟨lw_p21, List.forall_mem_cons.mpr ⟨lw_p22, List.forall_mem_cons.mpr ⟨lw_p23, List.forall_mem_cons.mpr ⟨lw_p24, List.forall_mem_cons.mpr ⟨lw_p25, List.forall_mem_cons.mpr ⟨lw_p26, List.forall_mem_cons.mpr ⟨lw_p27, List.forall_mem_cons.mpr ⟨lw_p28, List.forall_mem_cons.mpr ⟨lw_p29, List.forall_mem_cons.mpr ⟨lw_p30, List.forall_mem_cons.mpr ⟨lw_p31, fun _ h => absurd h List.not_mem_nil⟩⟩⟩⟩⟩⟩⟩⟩⟩⟩⟩⟩⟩⟩⟩⟩
theorem lw_p32 : lw_okq (⟨"QuarterBoards", "formOf", "(ZI)LQuarterBoards$Form;"⟩, 17) := ⟨⟨by decide +kernel, by decide +kernel⟩, List.mem_of_getElem? (i := 23) (by decide +kernel), List.mem_of_getElem? (i := 888) (by decide +kernel), List.mem_of_getElem? (i := 889) (by decide +kernel)⟩
theorem lw_p33 : lw_okq (⟨"QuarterBoards$Measure", "takePiece", "(I)V"⟩, 3) := ⟨⟨by decide +kernel, by decide +kernel⟩, List.mem_of_getElem? (i := 223) (by decide +kernel), List.mem_of_getElem? (i := 913) (by decide +kernel), List.mem_of_getElem? (i := 914) (by decide +kernel)⟩
theorem lw_p34 : lw_okq (⟨"QuarterBoards$Measure", "takeOpen", "(I)V"⟩, 3) := ⟨⟨by decide +kernel, by decide +kernel⟩, List.mem_of_getElem? (i := 223) (by decide +kernel), List.mem_of_getElem? (i := 917) (by decide +kernel), List.mem_of_getElem? (i := 918) (by decide +kernel)⟩
theorem lw_p35 : lw_okq (⟨"QuarterBoards", "isSet", "(I)Z"⟩, 17) := ⟨⟨by decide +kernel, by decide +kernel⟩, List.mem_of_getElem? (i := 23) (by decide +kernel), List.mem_of_getElem? (i := 998) (by decide +kernel), List.mem_of_getElem? (i := 999) (by decide +kernel)⟩
theorem lw_p36 : lw_okq (⟨"QuarterBoards$Filler", "look", "(LQuarterBoards$Form;IZ)V"⟩, 12) := ⟨⟨by decide +kernel, by decide +kernel⟩, List.mem_of_getElem? (i := 241) (by decide +kernel), List.mem_of_getElem? (i := 1006) (by decide +kernel), List.mem_of_getElem? (i := 1007) (by decide +kernel)⟩
theorem lw_p37 : lw_okq (⟨"QuarterBoards$Filler", "areaOf", "(I)I"⟩, 12) := ⟨⟨by decide +kernel, by decide +kernel⟩, List.mem_of_getElem? (i := 241) (by decide +kernel), List.mem_of_getElem? (i := 1010) (by decide +kernel), List.mem_of_getElem? (i := 1011) (by decide +kernel)⟩
theorem lw_p38 : lw_okq (⟨"QuarterBoards$Filler", "search", "(II)V"⟩, 12) := ⟨⟨by decide +kernel, by decide +kernel⟩, List.mem_of_getElem? (i := 241) (by decide +kernel), List.mem_of_getElem? (i := 1015) (by decide +kernel), List.mem_of_getElem? (i := 1016) (by decide +kernel)⟩
theorem lw_p39 : lw_okq (⟨"QuarterBoards$Filler", "countWay", "()V"⟩, 12) := ⟨⟨by decide +kernel, by decide +kernel⟩, List.mem_of_getElem? (i := 241) (by decide +kernel), List.mem_of_getElem? (i := 1020) (by decide +kernel), List.mem_of_getElem? (i := 1021) (by decide +kernel)⟩
theorem lw_p40 : lw_okq (⟨"QuarterBoards$Filler", "isOver", "()Z"⟩, 12) := ⟨⟨by decide +kernel, by decide +kernel⟩, List.mem_of_getElem? (i := 241) (by decide +kernel), List.mem_of_getElem? (i := 1027) (by decide +kernel), List.mem_of_getElem? (i := 1028) (by decide +kernel)⟩
theorem lw_p41 : lw_okq (⟨"QuarterBoards$Filler", "tryBoard", "(IIII)V"⟩, 12) := ⟨⟨by decide +kernel, by decide +kernel⟩, List.mem_of_getElem? (i := 241) (by decide +kernel), List.mem_of_getElem? (i := 1031) (by decide +kernel), List.mem_of_getElem? (i := 1032) (by decide +kernel)⟩
theorem lw_p42 : lw_okq (⟨"QuarterBoards$Filler", "fits", "(LQuarterBoards$Shape;III)Z"⟩, 12) := ⟨⟨by decide +kernel, by decide +kernel⟩, List.mem_of_getElem? (i := 241) (by decide +kernel), List.mem_of_getElem? (i := 1040) (by decide +kernel), List.mem_of_getElem? (i := 1041) (by decide +kernel)⟩
theorem lw_p43 : lw_okq (⟨"QuarterBoards$Filler", "change", "(LQuarterBoards$Shape;III)V"⟩, 12) := ⟨⟨by decide +kernel, by decide +kernel⟩, List.mem_of_getElem? (i := 241) (by decide +kernel), List.mem_of_getElem? (i := 1048) (by decide +kernel), List.mem_of_getElem? (i := 1049) (by decide +kernel)⟩
theorem lw_p44 : lw_okq (⟨"QuarterBoards$Filler", "lookForSets", "([ILQuarterBoards$Form;I)I"⟩, 12) := ⟨⟨by decide +kernel, by decide +kernel⟩, List.mem_of_getElem? (i := 241) (by decide +kernel), List.mem_of_getElem? (i := 1075) (by decide +kernel), List.mem_of_getElem? (i := 1076) (by decide +kernel)⟩
theorem lw_p45 : lw_okq (⟨"QuarterBoards$Filler", "doesFill", "(II)Z"⟩, 12) := ⟨⟨by decide +kernel, by decide +kernel⟩, List.mem_of_getElem? (i := 241) (by decide +kernel), List.mem_of_getElem? (i := 1087) (by decide +kernel), List.mem_of_getElem? (i := 1088) (by decide +kernel)⟩
theorem lw_p46 : lw_okq (⟨"QuarterBoards$Cutter", "remember", "(IIII)I"⟩, 10) := ⟨⟨by decide +kernel, by decide +kernel⟩, List.mem_of_getElem? (i := 289) (by decide +kernel), List.mem_of_getElem? (i := 1110) (by decide +kernel), List.mem_of_getElem? (i := 1111) (by decide +kernel)⟩
theorem lw_p47 : lw_okq (⟨"QuarterBoards$Cutter", "lookWith", "(LQuarterBoards$Shape;ILQuarterBoards$Measure;)Z"⟩, 10) := ⟨⟨by decide +kernel, by decide +kernel⟩, List.mem_of_getElem? (i := 289) (by decide +kernel), List.mem_of_getElem? (i := 1114) (by decide +kernel), List.mem_of_getElem? (i := 1115) (by decide +kernel)⟩
def lw_privs_3 : List (MethodName × Nat) := [(⟨"QuarterBoards", "formOf", "(ZI)LQuarterBoards$Form;"⟩, 17), (⟨"QuarterBoards$Measure", "takePiece", "(I)V"⟩, 3), (⟨"QuarterBoards$Measure", "takeOpen", "(I)V"⟩, 3), (⟨"QuarterBoards", "isSet", "(I)Z"⟩, 17), (⟨"QuarterBoards$Filler", "look", "(LQuarterBoards$Form;IZ)V"⟩, 12), (⟨"QuarterBoards$Filler", "areaOf", "(I)I"⟩, 12), (⟨"QuarterBoards$Filler", "search", "(II)V"⟩, 12), (⟨"QuarterBoards$Filler", "countWay", "()V"⟩, 12), (⟨"QuarterBoards$Filler", "isOver", "()Z"⟩, 12), (⟨"QuarterBoards$Filler", "tryBoard", "(IIII)V"⟩, 12), (⟨"QuarterBoards$Filler", "fits", "(LQuarterBoards$Shape;III)Z"⟩, 12), (⟨"QuarterBoards$Filler", "change", "(LQuarterBoards$Shape;III)V"⟩, 12), (⟨"QuarterBoards$Filler", "lookForSets", "([ILQuarterBoards$Form;I)I"⟩, 12), (⟨"QuarterBoards$Filler", "doesFill", "(II)Z"⟩, 12), (⟨"QuarterBoards$Cutter", "remember", "(IIII)I"⟩, 10), (⟨"QuarterBoards$Cutter", "lookWith", "(LQuarterBoards$Shape;ILQuarterBoards$Measure;)Z"⟩, 10)]
theorem lw_r3 : ∀ q ∈ lw_privs_3, lw_okq q := List.forall_mem_cons.mpr ⟨lw_p32, List.forall_mem_cons.mpr ⟨lw_p33, List.forall_mem_cons.mpr ⟨lw_p34, List.forall_mem_cons.mpr ⟨lw_p35, List.forall_mem_cons.mpr ⟨lw_p36, List.forall_mem_cons.mpr ⟨lw_p37, List.forall_mem_cons.mpr ⟨lw_p38, List.forall_mem_cons.mpr ⟨lw_p39, List.forall_mem_cons.mpr ⟨lw_p40, List.forall_mem_cons.mpr ⟨lw_p41, List.forall_mem_cons.mpr ⟨lw_p42, List.forall_mem_cons.mpr ⟨lw_p43, List.forall_mem_cons.mpr ⟨lw_p44, List.forall_mem_cons.mpr ⟨lw_p45, List.forall_mem_cons.mpr ⟨lw_p46, List.forall_mem_cons.mpr ⟨lw_p47, fun _ h => absurd h List.not_mem_nil⟩⟩⟩⟩⟩⟩⟩⟩⟩⟩⟩⟩⟩⟩⟩⟩
theorem lw_p48 : lw_okq (⟨"QuarterBoards$Cutter", "cuts", "(LQuarterBoards$Shape;IILQuarterBoards$Measure;)Z"⟩, 10) := ⟨⟨by decide +kernel, by decide +kernel⟩, List.mem_of_getElem? (i := 289) (by decide +kernel), List.mem_of_getElem? (i := 1118) (by decide +kernel), List.mem_of_getElem? (i := 1119) (by decide +kernel)⟩
theorem lw_p49 : lw_okq (⟨"QuarterBoards$Cutter", "haveLikeSides", "()Z"⟩, 10) := ⟨⟨by decide +kernel, by decide +kernel⟩, List.mem_of_getElem? (i := 289) (by decide +kernel), List.mem_of_getElem? (i := 1126) (by decide +kernel), List.mem_of_getElem? (i := 1127) (by decide +kernel)⟩
theorem lw_p50 : lw_okq (⟨"QuarterBoards$Table", "boardsLaid", "()I"⟩, 5) := ⟨⟨by decide +kernel, by decide +kernel⟩, List.mem_of_getElem? (i := 372) (by decide +kernel), List.mem_of_getElem? (i := 1173) (by decide +kernel), List.mem_of_getElem? (i := 1174) (by decide +kernel)⟩
theorem lw_p51 : lw_okq (⟨"QuarterBoards$Book", "areSame", "(II)Z"⟩, 7) := ⟨⟨by decide +kernel, by decide +kernel⟩, List.mem_of_getElem? (i := 396) (by decide +kernel), List.mem_of_getElem? (i := 1263) (by decide +kernel), List.mem_of_getElem? (i := 1264) (by decide +kernel)⟩
theorem lw_p52 : lw_okq (⟨"QuarterBoardsModel", "put", "(I)V"⟩, 80) := ⟨⟨by decide +kernel, by decide +kernel⟩, List.mem_of_getElem? (i := 1280) (by decide +kernel), List.mem_of_getElem? (i := 1538) (by decide +kernel), List.mem_of_getElem? (i := 1539) (by decide +kernel)⟩
theorem lw_p53 : lw_okq (⟨"QuarterBoardsModel", "cut", "()V"⟩, 80) := ⟨⟨by decide +kernel, by decide +kernel⟩, List.mem_of_getElem? (i := 1280) (by decide +kernel), List.mem_of_getElem? (i := 1550) (by decide +kernel), List.mem_of_getElem? (i := 1551) (by decide +kernel)⟩
theorem lw_p54 : lw_okq (⟨"QuarterBoardsModel", "at", "(I)I"⟩, 80) := ⟨⟨by decide +kernel, by decide +kernel⟩, List.mem_of_getElem? (i := 1280) (by decide +kernel), List.mem_of_getElem? (i := 1554) (by decide +kernel), List.mem_of_getElem? (i := 1555) (by decide +kernel)⟩
theorem lw_p55 : lw_okq (⟨"QuarterBoardsModel", "token", "(IIIJ)V"⟩, 80) := ⟨⟨by decide +kernel, by decide +kernel⟩, List.mem_of_getElem? (i := 1280) (by decide +kernel), List.mem_of_getElem? (i := 1558) (by decide +kernel), List.mem_of_getElem? (i := 1559) (by decide +kernel)⟩
theorem lw_p56 : lw_okq (⟨"QuarterBoardsModel", "is", "(I)Z"⟩, 80) := ⟨⟨by decide +kernel, by decide +kernel⟩, List.mem_of_getElem? (i := 1280) (by decide +kernel), List.mem_of_getElem? (i := 1571) (by decide +kernel), List.mem_of_getElem? (i := 1572) (by decide +kernel)⟩
theorem lw_p57 : lw_okq (⟨"QuarterBoardsModel", "tellThing", "()V"⟩, 80) := ⟨⟨by decide +kernel, by decide +kernel⟩, List.mem_of_getElem? (i := 1280) (by decide +kernel), List.mem_of_getElem? (i := 1575) (by decide +kernel), List.mem_of_getElem? (i := 1576) (by decide +kernel)⟩
theorem lw_p58 : lw_okq (⟨"QuarterBoardsModel", "fail", "(I)V"⟩, 80) := ⟨⟨by decide +kernel, by decide +kernel⟩, List.mem_of_getElem? (i := 1280) (by decide +kernel), List.mem_of_getElem? (i := 1579) (by decide +kernel), List.mem_of_getElem? (i := 1580) (by decide +kernel)⟩
theorem lw_p59 : lw_okq (⟨"QuarterBoardsModel", "next", "()V"⟩, 80) := ⟨⟨by decide +kernel, by decide +kernel⟩, List.mem_of_getElem? (i := 1280) (by decide +kernel), List.mem_of_getElem? (i := 1583) (by decide +kernel), List.mem_of_getElem? (i := 1584) (by decide +kernel)⟩
theorem lw_p60 : lw_okq (⟨"QuarterBoardsModel", "must", "(I)V"⟩, 80) := ⟨⟨by decide +kernel, by decide +kernel⟩, List.mem_of_getElem? (i := 1280) (by decide +kernel), List.mem_of_getElem? (i := 1587) (by decide +kernel), List.mem_of_getElem? (i := 1588) (by decide +kernel)⟩
theorem lw_p61 : lw_okq (⟨"QuarterBoardsModel", "wrong", "(II)V"⟩, 80) := ⟨⟨by decide +kernel, by decide +kernel⟩, List.mem_of_getElem? (i := 1280) (by decide +kernel), List.mem_of_getElem? (i := 1591) (by decide +kernel), List.mem_of_getElem? (i := 1592) (by decide +kernel)⟩
theorem lw_p62 : lw_okq (⟨"QuarterBoardsModel", "expression", "()V"⟩, 80) := ⟨⟨by decide +kernel, by decide +kernel⟩, List.mem_of_getElem? (i := 1280) (by decide +kernel), List.mem_of_getElem? (i := 1595) (by decide +kernel), List.mem_of_getElem? (i := 1596) (by decide +kernel)⟩
theorem lw_p63 : lw_okq (⟨"QuarterBoardsModel", "waitsFor", "(IIII)V"⟩, 80) := ⟨⟨by decide +kernel, by decide +kernel⟩, List.mem_of_getElem? (i := 1280) (by decide +kernel), List.mem_of_getElem? (i := 1599) (by decide +kernel), List.mem_of_getElem? (i := 1600) (by decide +kernel)⟩
def lw_privs_4 : List (MethodName × Nat) := [(⟨"QuarterBoards$Cutter", "cuts", "(LQuarterBoards$Shape;IILQuarterBoards$Measure;)Z"⟩, 10), (⟨"QuarterBoards$Cutter", "haveLikeSides", "()Z"⟩, 10), (⟨"QuarterBoards$Table", "boardsLaid", "()I"⟩, 5), (⟨"QuarterBoards$Book", "areSame", "(II)Z"⟩, 7), (⟨"QuarterBoardsModel", "put", "(I)V"⟩, 80), (⟨"QuarterBoardsModel", "cut", "()V"⟩, 80), (⟨"QuarterBoardsModel", "at", "(I)I"⟩, 80), (⟨"QuarterBoardsModel", "token", "(IIIJ)V"⟩, 80), (⟨"QuarterBoardsModel", "is", "(I)Z"⟩, 80), (⟨"QuarterBoardsModel", "tellThing", "()V"⟩, 80), (⟨"QuarterBoardsModel", "fail", "(I)V"⟩, 80), (⟨"QuarterBoardsModel", "next", "()V"⟩, 80), (⟨"QuarterBoardsModel", "must", "(I)V"⟩, 80), (⟨"QuarterBoardsModel", "wrong", "(II)V"⟩, 80), (⟨"QuarterBoardsModel", "expression", "()V"⟩, 80), (⟨"QuarterBoardsModel", "waitsFor", "(IIII)V"⟩, 80)]
theorem lw_r4 : ∀ q ∈ lw_privs_4, lw_okq q := List.forall_mem_cons.mpr ⟨lw_p48, List.forall_mem_cons.mpr ⟨lw_p49, List.forall_mem_cons.mpr ⟨lw_p50, List.forall_mem_cons.mpr ⟨lw_p51, List.forall_mem_cons.mpr ⟨lw_p52, List.forall_mem_cons.mpr ⟨lw_p53, List.forall_mem_cons.mpr ⟨lw_p54, List.forall_mem_cons.mpr ⟨lw_p55, List.forall_mem_cons.mpr ⟨lw_p56, List.forall_mem_cons.mpr ⟨lw_p57, List.forall_mem_cons.mpr ⟨lw_p58, List.forall_mem_cons.mpr ⟨lw_p59, List.forall_mem_cons.mpr ⟨lw_p60, List.forall_mem_cons.mpr ⟨lw_p61, List.forall_mem_cons.mpr ⟨lw_p62, List.forall_mem_cons.mpr ⟨lw_p63, fun _ h => absurd h List.not_mem_nil⟩⟩⟩⟩⟩⟩⟩⟩⟩⟩⟩⟩⟩⟩⟩⟩
theorem lw_p64 : lw_okq (⟨"QuarterBoardsModel", "signed", "()I"⟩, 80) := ⟨⟨by decide +kernel, by decide +kernel⟩, List.mem_of_getElem? (i := 1280) (by decide +kernel), List.mem_of_getElem? (i := 1603) (by decide +kernel), List.mem_of_getElem? (i := 1604) (by decide +kernel)⟩
theorem lw_p65 : lw_okq (⟨"QuarterBoardsModel", "number", "(II)I"⟩, 80) := ⟨⟨by decide +kernel, by decide +kernel⟩, List.mem_of_getElem? (i := 1280) (by decide +kernel), List.mem_of_getElem? (i := 1607) (by decide +kernel), List.mem_of_getElem? (i := 1608) (by decide +kernel)⟩
theorem lw_p66 : lw_okq (⟨"QuarterBoardsModel", "unit", "()V"⟩, 80) := ⟨⟨by decide +kernel, by decide +kernel⟩, List.mem_of_getElem? (i := 1280) (by decide +kernel), List.mem_of_getElem? (i := 1611) (by decide +kernel), List.mem_of_getElem? (i := 1612) (by decide +kernel)⟩
theorem lw_p67 : lw_okq (⟨"QuarterBoardsModel", "emit", "(IIIIII)V"⟩, 80) := ⟨⟨by decide +kernel, by decide +kernel⟩, List.mem_of_getElem? (i := 1280) (by decide +kernel), List.mem_of_getElem? (i := 1615) (by decide +kernel), List.mem_of_getElem? (i := 1616) (by decide +kernel)⟩
theorem lw_p68 : lw_okq (⟨"QuarterBoardsModel", "comesOut", "()V"⟩, 80) := ⟨⟨by decide +kernel, by decide +kernel⟩, List.mem_of_getElem? (i := 1280) (by decide +kernel), List.mem_of_getElem? (i := 1619) (by decide +kernel), List.mem_of_getElem? (i := 1620) (by decide +kernel)⟩
theorem lw_p69 : lw_okq (⟨"QuarterBoardsModel", "work", "(I)V"⟩, 80) := ⟨⟨by decide +kernel, by decide +kernel⟩, List.mem_of_getElem? (i := 1280) (by decide +kernel), List.mem_of_getElem? (i := 1623) (by decide +kernel), List.mem_of_getElem? (i := 1624) (by decide +kernel)⟩
theorem lw_p70 : lw_okq (⟨"QuarterBoardsModel", "lays", "(II)V"⟩, 80) := ⟨⟨by decide +kernel, by decide +kernel⟩, List.mem_of_getElem? (i := 1280) (by decide +kernel), List.mem_of_getElem? (i := 1627) (by decide +kernel), List.mem_of_getElem? (i := 1628) (by decide +kernel)⟩
theorem lw_p71 : lw_okq (⟨"QuarterBoardsModel", "pageOf", "(I)I"⟩, 80) := ⟨⟨by decide +kernel, by decide +kernel⟩, List.mem_of_getElem? (i := 1280) (by decide +kernel), List.mem_of_getElem? (i := 1631) (by decide +kernel), List.mem_of_getElem? (i := 1632) (by decide +kernel)⟩
theorem lw_p72 : lw_okq (⟨"QuarterBoardsModel", "copies", "(II)V"⟩, 80) := ⟨⟨by decide +kernel, by decide +kernel⟩, List.mem_of_getElem? (i := 1280) (by decide +kernel), List.mem_of_getElem? (i := 1635) (by decide +kernel), List.mem_of_getElem? (i := 1636) (by decide +kernel)⟩
theorem lw_p73 : lw_okq (⟨"QuarterBoardsModel", "clears", "(I)V"⟩, 80) := ⟨⟨by decide +kernel, by decide +kernel⟩, List.mem_of_getElem? (i := 1280) (by decide +kernel), List.mem_of_getElem? (i := 1639) (by decide +kernel), List.mem_of_getElem? (i := 1640) (by decide +kernel)⟩
theorem lw_p74 : lw_okq (⟨"QuarterBoardsModel", "turns", "(IIZ)V"⟩, 80) := ⟨⟨by decide +kernel, by decide +kernel⟩, List.mem_of_getElem? (i := 1280) (by decide +kernel), List.mem_of_getElem? (i := 1643) (by decide +kernel), List.mem_of_getElem? (i := 1644) (by decide +kernel)⟩
theorem lw_p75 : lw_okq (⟨"QuarterBoardsModel", "bases", "(II)V"⟩, 80) := ⟨⟨by decide +kernel, by decide +kernel⟩, List.mem_of_getElem? (i := 1280) (by decide +kernel), List.mem_of_getElem? (i := 1647) (by decide +kernel), List.mem_of_getElem? (i := 1648) (by decide +kernel)⟩
theorem lw_p76 : lw_okq (⟨"QuarterBoardsModel", "shifts", "(IIII)Z"⟩, 80) := ⟨⟨by decide +kernel, by decide +kernel⟩, List.mem_of_getElem? (i := 1280) (by decide +kernel), List.mem_of_getElem? (i := 1651) (by decide +kernel), List.mem_of_getElem? (i := 1652) (by decide +kernel)⟩
theorem lw_p77 : lw_okq (⟨"QuarterBoardsModel", "comesWrong", "(II)V"⟩, 80) := ⟨⟨by decide +kernel, by decide +kernel⟩, List.mem_of_getElem? (i := 1280) (by decide +kernel), List.mem_of_getElem? (i := 1655) (by decide +kernel), List.mem_of_getElem? (i := 1656) (by decide +kernel)⟩
theorem lw_p78 : lw_okq (⟨"QuarterBoardsModel", "areaOf", "(I)I"⟩, 80) := ⟨⟨by decide +kernel, by decide +kernel⟩, List.mem_of_getElem? (i := 1280) (by decide +kernel), List.mem_of_getElem? (i := 1659) (by decide +kernel), List.mem_of_getElem? (i := 1660) (by decide +kernel)⟩
theorem lw_p79 : lw_okq (⟨"QuarterBoardsModel", "restarts", "()V"⟩, 80) := ⟨⟨by decide +kernel, by decide +kernel⟩, List.mem_of_getElem? (i := 1280) (by decide +kernel), List.mem_of_getElem? (i := 1663) (by decide +kernel), List.mem_of_getElem? (i := 1664) (by decide +kernel)⟩
def lw_privs_5 : List (MethodName × Nat) := [(⟨"QuarterBoardsModel", "signed", "()I"⟩, 80), (⟨"QuarterBoardsModel", "number", "(II)I"⟩, 80), (⟨"QuarterBoardsModel", "unit", "()V"⟩, 80), (⟨"QuarterBoardsModel", "emit", "(IIIIII)V"⟩, 80), (⟨"QuarterBoardsModel", "comesOut", "()V"⟩, 80), (⟨"QuarterBoardsModel", "work", "(I)V"⟩, 80), (⟨"QuarterBoardsModel", "lays", "(II)V"⟩, 80), (⟨"QuarterBoardsModel", "pageOf", "(I)I"⟩, 80), (⟨"QuarterBoardsModel", "copies", "(II)V"⟩, 80), (⟨"QuarterBoardsModel", "clears", "(I)V"⟩, 80), (⟨"QuarterBoardsModel", "turns", "(IIZ)V"⟩, 80), (⟨"QuarterBoardsModel", "bases", "(II)V"⟩, 80), (⟨"QuarterBoardsModel", "shifts", "(IIII)Z"⟩, 80), (⟨"QuarterBoardsModel", "comesWrong", "(II)V"⟩, 80), (⟨"QuarterBoardsModel", "areaOf", "(I)I"⟩, 80), (⟨"QuarterBoardsModel", "restarts", "()V"⟩, 80)]
theorem lw_r5 : ∀ q ∈ lw_privs_5, lw_okq q := List.forall_mem_cons.mpr ⟨lw_p64, List.forall_mem_cons.mpr ⟨lw_p65, List.forall_mem_cons.mpr ⟨lw_p66, List.forall_mem_cons.mpr ⟨lw_p67, List.forall_mem_cons.mpr ⟨lw_p68, List.forall_mem_cons.mpr ⟨lw_p69, List.forall_mem_cons.mpr ⟨lw_p70, List.forall_mem_cons.mpr ⟨lw_p71, List.forall_mem_cons.mpr ⟨lw_p72, List.forall_mem_cons.mpr ⟨lw_p73, List.forall_mem_cons.mpr ⟨lw_p74, List.forall_mem_cons.mpr ⟨lw_p75, List.forall_mem_cons.mpr ⟨lw_p76, List.forall_mem_cons.mpr ⟨lw_p77, List.forall_mem_cons.mpr ⟨lw_p78, List.forall_mem_cons.mpr ⟨lw_p79, fun _ h => absurd h List.not_mem_nil⟩⟩⟩⟩⟩⟩⟩⟩⟩⟩⟩⟩⟩⟩⟩⟩
theorem lw_p80 : lw_okq (⟨"QuarterBoardsModel", "shape", "(ZI)I"⟩, 80) := ⟨⟨by decide +kernel, by decide +kernel⟩, List.mem_of_getElem? (i := 1280) (by decide +kernel), List.mem_of_getElem? (i := 1675) (by decide +kernel), List.mem_of_getElem? (i := 1676) (by decide +kernel)⟩
theorem lw_p81 : lw_okq (⟨"QuarterBoardsModel", "piecesOf", "(I)I"⟩, 80) := ⟨⟨by decide +kernel, by decide +kernel⟩, List.mem_of_getElem? (i := 1280) (by decide +kernel), List.mem_of_getElem? (i := 1690) (by decide +kernel), List.mem_of_getElem? (i := 1691) (by decide +kernel)⟩
theorem lw_p82 : lw_okq (⟨"QuarterBoardsModel", "meets", "(II)V"⟩, 80) := ⟨⟨by decide +kernel, by decide +kernel⟩, List.mem_of_getElem? (i := 1280) (by decide +kernel), List.mem_of_getElem? (i := 1694) (by decide +kernel), List.mem_of_getElem? (i := 1695) (by decide +kernel)⟩
theorem lw_p83 : lw_okq (⟨"QuarterBoardsModel", "cornersOf", "(IZ)I"⟩, 80) := ⟨⟨by decide +kernel, by decide +kernel⟩, List.mem_of_getElem? (i := 1280) (by decide +kernel), List.mem_of_getElem? (i := 1702) (by decide +kernel), List.mem_of_getElem? (i := 1703) (by decide +kernel)⟩
theorem lw_p84 : lw_okq (⟨"QuarterBoardsModel", "isIn", "(IIII)Z"⟩, 80) := ⟨⟨by decide +kernel, by decide +kernel⟩, List.mem_of_getElem? (i := 1280) (by decide +kernel), List.mem_of_getElem? (i := 1706) (by decide +kernel), List.mem_of_getElem? (i := 1707) (by decide +kernel)⟩
theorem lw_p85 : lw_okq (⟨"QuarterBoardsModel", "cornersHere", "(IZ)I"⟩, 80) := ⟨⟨by decide +kernel, by decide +kernel⟩, List.mem_of_getElem? (i := 1280) (by decide +kernel), List.mem_of_getElem? (i := 1710) (by decide +kernel), List.mem_of_getElem? (i := 1711) (by decide +kernel)⟩
theorem lw_p86 : lw_okq (⟨"QuarterBoardsModel", "leastSame", "(II)I"⟩, 80) := ⟨⟨by decide +kernel, by decide +kernel⟩, List.mem_of_getElem? (i := 1280) (by decide +kernel), List.mem_of_getElem? (i := 1722) (by decide +kernel), List.mem_of_getElem? (i := 1723) (by decide +kernel)⟩
theorem lw_p87 : lw_okq (⟨"QuarterBoardsModel", "imaged", "(III)V"⟩, 80) := ⟨⟨by decide +kernel, by decide +kernel⟩, List.mem_of_getElem? (i := 1280) (by decide +kernel), List.mem_of_getElem? (i := 1726) (by decide +kernel), List.mem_of_getElem? (i := 1727) (by decide +kernel)⟩
theorem lw_p88 : lw_okq (⟨"QuarterBoardsModel", "isSame", "(II)Z"⟩, 80) := ⟨⟨by decide +kernel, by decide +kernel⟩, List.mem_of_getElem? (i := 1280) (by decide +kernel), List.mem_of_getElem? (i := 1730) (by decide +kernel), List.mem_of_getElem? (i := 1731) (by decide +kernel)⟩
theorem lw_p89 : lw_okq (⟨"QuarterBoardsModel", "alikeBy", "(II)I"⟩, 80) := ⟨⟨by decide +kernel, by decide +kernel⟩, List.mem_of_getElem? (i := 1280) (by decide +kernel), List.mem_of_getElem? (i := 1742) (by decide +kernel), List.mem_of_getElem? (i := 1743) (by decide +kernel)⟩
theorem lw_p90 : lw_okq (⟨"QuarterBoardsModel", "isOutlineThere", "(I)Z"⟩, 80) := ⟨⟨by decide +kernel, by decide +kernel⟩, List.mem_of_getElem? (i := 1280) (by decide +kernel), List.mem_of_getElem? (i := 1750) (by decide +kernel), List.mem_of_getElem? (i := 1751) (by decide +kernel)⟩
theorem lw_p91 : lw_okq (⟨"QuarterBoardsModel", "isSet", "(I)Z"⟩, 80) := ⟨⟨by decide +kernel, by decide +kernel⟩, List.mem_of_getElem? (i := 1280) (by decide +kernel), List.mem_of_getElem? (i := 1754) (by decide +kernel), List.mem_of_getElem? (i := 1755) (by decide +kernel)⟩
theorem lw_p92 : lw_okq (⟨"QuarterBoardsModel", "looks", "(IIZ)V"⟩, 80) := ⟨⟨by decide +kernel, by decide +kernel⟩, List.mem_of_getElem? (i := 1280) (by decide +kernel), List.mem_of_getElem? (i := 1758) (by decide +kernel), List.mem_of_getElem? (i := 1759) (by decide +kernel)⟩
theorem lw_p93 : lw_okq (⟨"QuarterBoardsModel", "readies", "()V"⟩, 80) := ⟨⟨by decide +kernel, by decide +kernel⟩, List.mem_of_getElem? (i := 1280) (by decide +kernel), List.mem_of_getElem? (i := 1762) (by decide +kernel), List.mem_of_getElem? (i := 1763) (by decide +kernel)⟩
theorem lw_p94 : lw_okq (⟨"QuarterBoardsModel", "leastLeft", "()I"⟩, 80) := ⟨⟨by decide +kernel, by decide +kernel⟩, List.mem_of_getElem? (i := 1280) (by decide +kernel), List.mem_of_getElem? (i := 1766) (by decide +kernel), List.mem_of_getElem? (i := 1767) (by decide +kernel)⟩
theorem lw_p95 : lw_okq (⟨"QuarterBoardsModel", "marks", "(IIZ)V"⟩, 80) := ⟨⟨by decide +kernel, by decide +kernel⟩, List.mem_of_getElem? (i := 1280) (by decide +kernel), List.mem_of_getElem? (i := 1770) (by decide +kernel), List.mem_of_getElem? (i := 1771) (by decide +kernel)⟩
def lw_privs_6 : List (MethodName × Nat) := [(⟨"QuarterBoardsModel", "shape", "(ZI)I"⟩, 80), (⟨"QuarterBoardsModel", "piecesOf", "(I)I"⟩, 80), (⟨"QuarterBoardsModel", "meets", "(II)V"⟩, 80), (⟨"QuarterBoardsModel", "cornersOf", "(IZ)I"⟩, 80), (⟨"QuarterBoardsModel", "isIn", "(IIII)Z"⟩, 80), (⟨"QuarterBoardsModel", "cornersHere", "(IZ)I"⟩, 80), (⟨"QuarterBoardsModel", "leastSame", "(II)I"⟩, 80), (⟨"QuarterBoardsModel", "imaged", "(III)V"⟩, 80), (⟨"QuarterBoardsModel", "isSame", "(II)Z"⟩, 80), (⟨"QuarterBoardsModel", "alikeBy", "(II)I"⟩, 80), (⟨"QuarterBoardsModel", "isOutlineThere", "(I)Z"⟩, 80), (⟨"QuarterBoardsModel", "isSet", "(I)Z"⟩, 80), (⟨"QuarterBoardsModel", "looks", "(IIZ)V"⟩, 80), (⟨"QuarterBoardsModel", "readies", "()V"⟩, 80), (⟨"QuarterBoardsModel", "leastLeft", "()I"⟩, 80), (⟨"QuarterBoardsModel", "marks", "(IIZ)V"⟩, 80)]
theorem lw_r6 : ∀ q ∈ lw_privs_6, lw_okq q := List.forall_mem_cons.mpr ⟨lw_p80, List.forall_mem_cons.mpr ⟨lw_p81, List.forall_mem_cons.mpr ⟨lw_p82, List.forall_mem_cons.mpr ⟨lw_p83, List.forall_mem_cons.mpr ⟨lw_p84, List.forall_mem_cons.mpr ⟨lw_p85, List.forall_mem_cons.mpr ⟨lw_p86, List.forall_mem_cons.mpr ⟨lw_p87, List.forall_mem_cons.mpr ⟨lw_p88, List.forall_mem_cons.mpr ⟨lw_p89, List.forall_mem_cons.mpr ⟨lw_p90, List.forall_mem_cons.mpr ⟨lw_p91, List.forall_mem_cons.mpr ⟨lw_p92, List.forall_mem_cons.mpr ⟨lw_p93, List.forall_mem_cons.mpr ⟨lw_p94, List.forall_mem_cons.mpr ⟨lw_p95, fun _ h => absurd h List.not_mem_nil⟩⟩⟩⟩⟩⟩⟩⟩⟩⟩⟩⟩⟩⟩⟩⟩
theorem lw_p96 : lw_okq (⟨"QuarterBoardsModel", "liesOn", "(II)Z"⟩, 80) := ⟨⟨by decide +kernel, by decide +kernel⟩, List.mem_of_getElem? (i := 1280) (by decide +kernel), List.mem_of_getElem? (i := 1774) (by decide +kernel), List.mem_of_getElem? (i := 1775) (by decide +kernel)⟩
theorem lw_p97 : lw_okq (⟨"QuarterBoardsModel", "isFree", "(II)Z"⟩, 80) := ⟨⟨by decide +kernel, by decide +kernel⟩, List.mem_of_getElem? (i := 1280) (by decide +kernel), List.mem_of_getElem? (i := 1779) (by decide +kernel), List.mem_of_getElem? (i := 1780) (by decide +kernel)⟩
theorem lw_p98 : lw_okq (⟨"QuarterBoardsModel", "remembers", "(I)V"⟩, 80) := ⟨⟨by decide +kernel, by decide +kernel⟩, List.mem_of_getElem? (i := 1280) (by decide +kernel), List.mem_of_getElem? (i := 1783) (by decide +kernel), List.mem_of_getElem? (i := 1784) (by decide +kernel)⟩
theorem lw_p99 : lw_okq (⟨"QuarterBoardsModel", "setsOf", "(II)I"⟩, 80) := ⟨⟨by decide +kernel, by decide +kernel⟩, List.mem_of_getElem? (i := 1280) (by decide +kernel), List.mem_of_getElem? (i := 1799) (by decide +kernel), List.mem_of_getElem? (i := 1800) (by decide +kernel)⟩
theorem lw_p100 : lw_okq (⟨"QuarterBoardsModel", "parts", "(II)Z"⟩, 80) := ⟨⟨by decide +kernel, by decide +kernel⟩, List.mem_of_getElem? (i := 1280) (by decide +kernel), List.mem_of_getElem? (i := 1815) (by decide +kernel), List.mem_of_getElem? (i := 1816) (by decide +kernel)⟩
theorem lw_p101 : lw_okq (⟨"QuarterBoardsModel", "laysThere", "()I"⟩, 80) := ⟨⟨by decide +kernel, by decide +kernel⟩, List.mem_of_getElem? (i := 1280) (by decide +kernel), List.mem_of_getElem? (i := 1831) (by decide +kernel), List.mem_of_getElem? (i := 1832) (by decide +kernel)⟩
theorem lw_p102 : lw_okq (⟨"QuarterBoardsModel", "layersAt", "(I)I"⟩, 80) := ⟨⟨by decide +kernel, by decide +kernel⟩, List.mem_of_getElem? (i := 1280) (by decide +kernel), List.mem_of_getElem? (i := 1847) (by decide +kernel), List.mem_of_getElem? (i := 1848) (by decide +kernel)⟩
theorem lw_p103 : lw_okq (⟨"QuarterBoardsModel", "judge", "(II)I"⟩, 80) := ⟨⟨by decide +kernel, by decide +kernel⟩, List.mem_of_getElem? (i := 1280) (by decide +kernel), List.mem_of_getElem? (i := 1859) (by decide +kernel), List.mem_of_getElem? (i := 1860) (by decide +kernel)⟩
theorem lw_p104 : lw_okq (⟨"QuarterBoardsModel", "isClaim", "(I)Z"⟩, 80) := ⟨⟨by decide +kernel, by decide +kernel⟩, List.mem_of_getElem? (i := 1280) (by decide +kernel), List.mem_of_getElem? (i := 1868) (by decide +kernel), List.mem_of_getElem? (i := 1869) (by decide +kernel)⟩
theorem lw_p105 : lw_okq (⟨"QuarterBoardsModel", "isRight", "(II)Z"⟩, 80) := ⟨⟨by decide +kernel, by decide +kernel⟩, List.mem_of_getElem? (i := 1280) (by decide +kernel), List.mem_of_getElem? (i := 1880) (by decide +kernel), List.mem_of_getElem? (i := 1881) (by decide +kernel)⟩
theorem lw_p106 : lw_okq (⟨"QuarterBoardsModel", "firstOf", "(II)I"⟩, 80) := ⟨⟨by decide +kernel, by decide +kernel⟩, List.mem_of_getElem? (i := 1280) (by decide +kernel), List.mem_of_getElem? (i := 1884) (by decide +kernel), List.mem_of_getElem? (i := 1885) (by decide +kernel)⟩
theorem lw_p107 : lw_okq (⟨"QuarterBoardsModel", "isLike", "(II)Z"⟩, 80) := ⟨⟨by decide +kernel, by decide +kernel⟩, List.mem_of_getElem? (i := 1280) (by decide +kernel), List.mem_of_getElem? (i := 1888) (by decide +kernel), List.mem_of_getElem? (i := 1889) (by decide +kernel)⟩
def lw_privs_7 : List (MethodName × Nat) := [(⟨"QuarterBoardsModel", "liesOn", "(II)Z"⟩, 80), (⟨"QuarterBoardsModel", "isFree", "(II)Z"⟩, 80), (⟨"QuarterBoardsModel", "remembers", "(I)V"⟩, 80), (⟨"QuarterBoardsModel", "setsOf", "(II)I"⟩, 80), (⟨"QuarterBoardsModel", "parts", "(II)Z"⟩, 80), (⟨"QuarterBoardsModel", "laysThere", "()I"⟩, 80), (⟨"QuarterBoardsModel", "layersAt", "(I)I"⟩, 80), (⟨"QuarterBoardsModel", "judge", "(II)I"⟩, 80), (⟨"QuarterBoardsModel", "isClaim", "(I)Z"⟩, 80), (⟨"QuarterBoardsModel", "isRight", "(II)Z"⟩, 80), (⟨"QuarterBoardsModel", "firstOf", "(II)I"⟩, 80), (⟨"QuarterBoardsModel", "isLike", "(II)Z"⟩, 80)]
theorem lw_r7 : ∀ q ∈ lw_privs_7, lw_okq q := List.forall_mem_cons.mpr ⟨lw_p96, List.forall_mem_cons.mpr ⟨lw_p97, List.forall_mem_cons.mpr ⟨lw_p98, List.forall_mem_cons.mpr ⟨lw_p99, List.forall_mem_cons.mpr ⟨lw_p100, List.forall_mem_cons.mpr ⟨lw_p101, List.forall_mem_cons.mpr ⟨lw_p102, List.forall_mem_cons.mpr ⟨lw_p103, List.forall_mem_cons.mpr ⟨lw_p104, List.forall_mem_cons.mpr ⟨lw_p105, List.forall_mem_cons.mpr ⟨lw_p106, List.forall_mem_cons.mpr ⟨lw_p107, fun _ h => absurd h List.not_mem_nil⟩⟩⟩⟩⟩⟩⟩⟩⟩⟩⟩⟩
def lw_privs : List (MethodName × Nat) := lw_privs_1 ++ (lw_privs_2 ++ (lw_privs_3 ++ (lw_privs_4 ++ (lw_privs_5 ++ (lw_privs_6 ++ (lw_privs_7))))))
def lw_tbl : List Cond := k2_sels lw_privs ++ tables_1
theorem lw_privs_ok : ∀ q ∈ lw_privs, lw_okq q := by
  show ∀ q ∈ lw_privs_1 ++ (lw_privs_2 ++ (lw_privs_3 ++ (lw_privs_4 ++ (lw_privs_5 ++ (lw_privs_6 ++ (lw_privs_7)))))), lw_okq q
  exact List.forall_mem_append.mpr ⟨lw_r1, List.forall_mem_append.mpr ⟨lw_r2, List.forall_mem_append.mpr ⟨lw_r3, List.forall_mem_append.mpr ⟨lw_r4, List.forall_mem_append.mpr ⟨lw_r5, List.forall_mem_append.mpr ⟨lw_r6, lw_r7⟩⟩⟩⟩⟩⟩
-- ===== end of PART A; then your names; then what follows =====
end
section
/-! ===== names: the words of the tables that are good; classes, fields, methods ===== -/
def gT : List Cond := lw_tbl.filter goodWord
theorem gT_of {c : Cond} (i : Nat) (h : lw_tbl[i]? = some c) (hg : goodWord c = true) : c ∈ gT := List.mem_filter.mpr ⟨List.mem_of_getElem? h, hg⟩
theorem gT_ws {ws : List Cond} (ps : List Nat) (h : ws = ps.filterMap (fun i => lw_tbl[i]?)) (hg : ws.all goodWord = true) : ∀ w ∈ ws, w ∈ gT := by
  intro w hw
  have h1 := List.all_eq_true.mp hg w hw
  rw [h] at hw
  obtain ⟨i, -, hi⟩ := List.mem_filterMap.mp hw
  exact gT_of i hi h1
def R_Book : String := "QuarterBoards$Book"
def T_Book : u_T := fun k => match k with
  | 0 => ("QuarterBoards$Book", "entries", "I", false)
  | 1 => ("QuarterBoards$Book", "verdicts", "[I", true)
  | 2 => ("QuarterBoards$Book", "players", "[I", true)
  | 3 => ("QuarterBoards$Book", "outlines", "[I", true)
  | 4 => ("QuarterBoards$Book", "boardSets", "[I", true)
  | 5 => ("QuarterBoards$Book", "layCodes", "[[I", true)
  | _ => ("QuarterBoards$Book", "named", "[I", true)
def ty_Book : Nat → FieldType := fun k => match k with
  | 0 => .int
  | 1 => .array .int
  | 2 => .array .int
  | 3 => .array .int
  | 4 => .array .int
  | 5 => .array (.array .int)
  | _ => .array .int
theorem nm_Book : ∀ a, a < 7 → ∀ b, b < 7 → a ≠ b → (T_Book a).2.1 ≠ (T_Book b).2.1 := by decide +kernel
theorem tyok_Book : ∀ k, k < 7 → parseFieldDescriptor (T_Book k).2.2.1 = some (ty_Book k) := by decide +kernel
theorem iw_Book : ∀ w ∈ u_ws R_Book T_Book 7, w ∈ gT := gT_ws [519, 521, 523, 525, 527, 529, 531] (by decide +kernel) (by decide +kernel)
def R_Builder : String := "QuarterBoards$Builder"
def T_Builder : u_T := fun k => match k with
  | 0 => ("QuarterBoards$Builder", "made", "[LQuarterBoards$Shape;", true)
  | 1 => ("QuarterBoards$Builder", "asOutline", "[Z", true)
  | 2 => ("QuarterBoards$Builder", "many", "I", false)
  | 3 => ("QuarterBoards$Builder", "names", "[J", true)
  | 4 => ("QuarterBoards$Builder", "sums", "[LQuarterBoards$Shape;", true)
  | 5 => ("QuarterBoards$Builder", "parts", "[LQuarterBoards$Shape;", true)
  | 6 => ("QuarterBoards$Builder", "spare", "LQuarterBoards$Shape;", true)
  | 7 => ("QuarterBoards$Builder", "words", "[I", true)
  | 8 => ("QuarterBoards$Builder", "wordsOpen", "I", false)
  | 9 => ("QuarterBoards$Builder", "tokens", "LQuarterBoards$Tokens;", true)
  | _ => ("QuarterBoards$Builder", "at", "I", false)
def ty_Builder : Nat → FieldType := fun k => match k with
  | 0 => .array (.object "QuarterBoards$Shape")
  | 1 => .array .boolean
  | 2 => .int
  | 3 => .array .long
  | 4 => .array (.object "QuarterBoards$Shape")
  | 5 => .array (.object "QuarterBoards$Shape")
  | 6 => .object "QuarterBoards$Shape"
  | 7 => .array .int
  | 8 => .int
  | 9 => .object "QuarterBoards$Tokens"
  | _ => .int
theorem nm_Builder : ∀ a, a < 11 → ∀ b, b < 11 → a ≠ b → (T_Builder a).2.1 ≠ (T_Builder b).2.1 := by decide +kernel
theorem tyok_Builder : ∀ k, k < 11 → parseFieldDescriptor (T_Builder k).2.2.1 = some (ty_Builder k) := by decide +kernel
theorem iw_Builder : ∀ w ∈ u_ws R_Builder T_Builder 11, w ∈ gT := gT_ws [307, 309, 311, 313, 315, 317, 319, 321, 323, 325, 327] (by decide +kernel) (by decide +kernel)
def R_Cutter : String := "QuarterBoards$Cutter"
def T_Cutter : u_T := fun k => match k with
  | 0 => ("QuarterBoards$Cutter", "partCount", "I", false)
  | 1 => ("QuarterBoards$Cutter", "imageLaid", "I", false)
  | 2 => ("QuarterBoards$Cutter", "shiftA", "I", false)
  | 3 => ("QuarterBoards$Cutter", "shiftB", "I", false)
  | 4 => ("QuarterBoards$Cutter", "whole", "LQuarterBoards$Shape;", true)
  | 5 => ("QuarterBoards$Cutter", "firstPart", "LQuarterBoards$Shape;", true)
  | 6 => ("QuarterBoards$Cutter", "secondPart", "LQuarterBoards$Shape;", true)
  | 7 => ("QuarterBoards$Cutter", "common", "LQuarterBoards$Shape;", true)
  | 8 => ("QuarterBoards$Cutter", "leftOver", "LQuarterBoards$Shape;", true)
  | _ => ("QuarterBoards$Cutter", "leftForm", "LQuarterBoards$Form;", true)
def ty_Cutter : Nat → FieldType := fun k => match k with
  | 0 => .int
  | 1 => .int
  | 2 => .int
  | 3 => .int
  | 4 => .object "QuarterBoards$Shape"
  | 5 => .object "QuarterBoards$Shape"
  | 6 => .object "QuarterBoards$Shape"
  | 7 => .object "QuarterBoards$Shape"
  | 8 => .object "QuarterBoards$Shape"
  | _ => .object "QuarterBoards$Form"
theorem nm_Cutter : ∀ a, a < 10 → ∀ b, b < 10 → a ≠ b → (T_Cutter a).2.1 ≠ (T_Cutter b).2.1 := by decide +kernel
theorem tyok_Cutter : ∀ k, k < 10 → parseFieldDescriptor (T_Cutter k).2.2.1 = some (ty_Cutter k) := by decide +kernel
theorem iw_Cutter : ∀ w ∈ u_ws R_Cutter T_Cutter 10, w ∈ gT := gT_ws [458, 460, 462, 464, 466, 468, 470, 472, 474, 476] (by decide +kernel) (by decide +kernel)
def R_Filler : String := "QuarterBoards$Filler"
def T_Filler : u_T := fun k => match k with
  | 0 => ("QuarterBoards$Filler", "countedSteps", "I", false)
  | 1 => ("QuarterBoards$Filler", "boards", "[LQuarterBoards$Form;", true)
  | 2 => ("QuarterBoards$Filler", "left", "LQuarterBoards$Shape;", true)
  | 3 => ("QuarterBoards$Filler", "onlyFirst", "Z", false)
  | 4 => ("QuarterBoards$Filler", "full", "Z", false)
  | 5 => ("QuarterBoards$Filler", "stepsDone", "I", false)
  | 6 => ("QuarterBoards$Filler", "ways", "I", false)
  | 7 => ("QuarterBoards$Filler", "tried", "[I", true)
  | 8 => ("QuarterBoards$Filler", "firstWay", "[I", true)
  | 9 => ("QuarterBoards$Filler", "rememberedSet", "I", false)
  | 10 => ("QuarterBoards$Filler", "setCounts", "[I", true)
  | _ => ("QuarterBoards$Filler", "fillingSets", "[[I", true)
def ty_Filler : Nat → FieldType := fun k => match k with
  | 0 => .int
  | 1 => .array (.object "QuarterBoards$Form")
  | 2 => .object "QuarterBoards$Shape"
  | 3 => .boolean
  | 4 => .boolean
  | 5 => .int
  | 6 => .int
  | 7 => .array .int
  | 8 => .array .int
  | 9 => .int
  | 10 => .array .int
  | _ => .array (.array .int)
theorem nm_Filler : ∀ a, a < 12 → ∀ b, b < 12 → a ≠ b → (T_Filler a).2.1 ≠ (T_Filler b).2.1 := by decide +kernel
theorem tyok_Filler : ∀ k, k < 12 → parseFieldDescriptor (T_Filler k).2.2.1 = some (ty_Filler k) := by decide +kernel
theorem iw_Filler : ∀ w ∈ u_ws R_Filler T_Filler 12, w ∈ gT := gT_ws [371, 373, 375, 377, 379, 381, 383, 385, 387, 389, 391, 393] (by decide +kernel) (by decide +kernel)
def R_Form : String := "QuarterBoards$Form"
def T_Form : u_T := fun k => match k with
  | 0 => ("QuarterBoards$Form", "told", "LQuarterBoards$Shape;", true)
  | 1 => ("QuarterBoards$Form", "turned", "[LQuarterBoards$Shape;", true)
  | 2 => ("QuarterBoards$Form", "lowest", "[I", true)
  | 3 => ("QuarterBoards$Form", "width", "[I", true)
  | 4 => ("QuarterBoards$Form", "height", "[I", true)
  | 5 => ("QuarterBoards$Form", "leastSame", "[I", true)
  | _ => ("QuarterBoards$Form", "size", "I", false)
def ty_Form : Nat → FieldType := fun k => match k with
  | 0 => .object "QuarterBoards$Shape"
  | 1 => .array (.object "QuarterBoards$Shape")
  | 2 => .array .int
  | 3 => .array .int
  | 4 => .array .int
  | 5 => .array .int
  | _ => .int
theorem nm_Form : ∀ a, a < 7 → ∀ b, b < 7 → a ≠ b → (T_Form a).2.1 ≠ (T_Form b).2.1 := by decide +kernel
theorem tyok_Form : ∀ k, k < 7 → parseFieldDescriptor (T_Form k).2.2.1 = some (ty_Form k) := by decide +kernel
theorem iw_Form : ∀ w ∈ u_ws R_Form T_Form 7, w ∈ gT := gT_ws [433, 435, 437, 439, 441, 443, 445] (by decide +kernel) (by decide +kernel)
def R_Meaning : String := "QuarterBoards$Meaning"
def T_Meaning : u_T := fun k => match k with
  | 0 => ("QuarterBoards$Meaning", "names", "[J", true)
  | 1 => ("QuarterBoards$Meaning", "told", "I", false)
  | 2 => ("QuarterBoards$Meaning", "openName", "J", false)
  | 3 => ("QuarterBoards$Meaning", "word", "I", false)
  | 4 => ("QuarterBoards$Meaning", "numbersSeen", "I", false)
  | 5 => ("QuarterBoards$Meaning", "unitX", "I", false)
  | _ => ("QuarterBoards$Meaning", "unitY", "I", false)
def ty_Meaning : Nat → FieldType := fun k => match k with
  | 0 => .array .long
  | 1 => .int
  | 2 => .long
  | 3 => .int
  | 4 => .int
  | 5 => .int
  | _ => .int
theorem nm_Meaning : ∀ a, a < 7 → ∀ b, b < 7 → a ≠ b → (T_Meaning a).2.1 ≠ (T_Meaning b).2.1 := by decide +kernel
theorem tyok_Meaning : ∀ k, k < 7 → parseFieldDescriptor (T_Meaning k).2.2.1 = some (ty_Meaning k) := by decide +kernel
theorem iw_Meaning : ∀ w ∈ u_ws R_Meaning T_Meaning 7, w ∈ gT := gT_ws [259, 261, 263, 265, 267, 269, 271] (by decide +kernel) (by decide +kernel)
def R_Measure : String := "QuarterBoards$Measure"
def T_Measure : u_T := fun k => match k with
  | 0 => ("QuarterBoards$Measure", "open", "LQuarterBoards$Shape;", true)
  | 1 => ("QuarterBoards$Measure", "queue", "[I", true)
  | _ => ("QuarterBoards$Measure", "queued", "I", false)
def ty_Measure : Nat → FieldType := fun k => match k with
  | 0 => .object "QuarterBoards$Shape"
  | 1 => .array .int
  | _ => .int
theorem nm_Measure : ∀ a, a < 3 → ∀ b, b < 3 → a ≠ b → (T_Measure a).2.1 ≠ (T_Measure b).2.1 := by decide +kernel
theorem tyok_Measure : ∀ k, k < 3 → parseFieldDescriptor (T_Measure k).2.2.1 = some (ty_Measure k) := by decide +kernel
theorem iw_Measure : ∀ w ∈ u_ws R_Measure T_Measure 3, w ∈ gT := gT_ws [341, 343, 345] (by decide +kernel) (by decide +kernel)
def R_Shape : String := "QuarterBoards$Shape"
def T_Shape : u_T := fun k => match k with
  | _ => ("QuarterBoards$Shape", "rows", "[I", true)
def ty_Shape : Nat → FieldType := fun k => match k with
  | _ => .array .int
theorem nm_Shape : ∀ a, a < 1 → ∀ b, b < 1 → a ≠ b → (T_Shape a).2.1 ≠ (T_Shape b).2.1 := by decide +kernel
theorem tyok_Shape : ∀ k, k < 1 → parseFieldDescriptor (T_Shape k).2.2.1 = some (ty_Shape k) := by decide +kernel
theorem iw_Shape : ∀ w ∈ u_ws R_Shape T_Shape 1, w ∈ gT := gT_ws [289] (by decide +kernel) (by decide +kernel)
def R_Syntax : String := "QuarterBoards$Syntax"
def T_Syntax : u_T := fun k => match k with
  | 0 => ("QuarterBoards$Syntax", "state", "I", false)
  | 1 => ("QuarterBoards$Syntax", "numbersLeft", "I", false)
  | 2 => ("QuarterBoards$Syntax", "brackets", "I", false)
  | 3 => ("QuarterBoards$Syntax", "boardsTold", "I", false)
  | _ => ("QuarterBoards$Syntax", "outlinesTold", "I", false)
def ty_Syntax : Nat → FieldType := fun k => match k with
  | 0 => .int
  | 1 => .int
  | 2 => .int
  | 3 => .int
  | _ => .int
theorem nm_Syntax : ∀ a, a < 5 → ∀ b, b < 5 → a ≠ b → (T_Syntax a).2.1 ≠ (T_Syntax b).2.1 := by decide +kernel
theorem tyok_Syntax : ∀ k, k < 5 → parseFieldDescriptor (T_Syntax k).2.2.1 = some (ty_Syntax k) := by decide +kernel
theorem iw_Syntax : ∀ w ∈ u_ws R_Syntax T_Syntax 5, w ∈ gT := gT_ws [235, 237, 239, 241, 243] (by decide +kernel) (by decide +kernel)
def R_Table : String := "QuarterBoards$Table"
def T_Table : u_T := fun k => match k with
  | 0 => ("QuarterBoards$Table", "lays", "[LQuarterBoards$Shape;", true)
  | 1 => ("QuarterBoards$Table", "codes", "[I", true)
  | 2 => ("QuarterBoards$Table", "once", "LQuarterBoards$Shape;", true)
  | 3 => ("QuarterBoards$Table", "again", "LQuarterBoards$Shape;", true)
  | _ => ("QuarterBoards$Table", "spare", "LQuarterBoards$Shape;", true)
def ty_Table : Nat → FieldType := fun k => match k with
  | 0 => .array (.object "QuarterBoards$Shape")
  | 1 => .array .int
  | 2 => .object "QuarterBoards$Shape"
  | 3 => .object "QuarterBoards$Shape"
  | _ => .object "QuarterBoards$Shape"
theorem nm_Table : ∀ a, a < 5 → ∀ b, b < 5 → a ≠ b → (T_Table a).2.1 ≠ (T_Table b).2.1 := by decide +kernel
theorem tyok_Table : ∀ k, k < 5 → parseFieldDescriptor (T_Table k).2.2.1 = some (ty_Table k) := by decide +kernel
theorem iw_Table : ∀ w ∈ u_ws R_Table T_Table 5, w ∈ gT := gT_ws [492, 494, 496, 498, 500] (by decide +kernel) (by decide +kernel)
def R_Tokens : String := "QuarterBoards$Tokens"
def T_Tokens : u_T := fun k => match k with
  | 0 => ("QuarterBoards$Tokens", "kinds", "[I", true)
  | 1 => ("QuarterBoards$Tokens", "places", "[I", true)
  | 2 => ("QuarterBoards$Tokens", "values", "[J", true)
  | 3 => ("QuarterBoards$Tokens", "many", "I", false)
  | 4 => ("QuarterBoards$Tokens", "endPlace", "I", false)
  | 5 => ("QuarterBoards$Tokens", "fault", "I", false)
  | 6 => ("QuarterBoards$Tokens", "faultPlace", "I", false)
  | _ => ("QuarterBoards$Tokens", "wordCodes", "[J", true)
def ty_Tokens : Nat → FieldType := fun k => match k with
  | 0 => .array .int
  | 1 => .array .int
  | 2 => .array .long
  | 3 => .int
  | 4 => .int
  | 5 => .int
  | 6 => .int
  | _ => .array .long
theorem nm_Tokens : ∀ a, a < 8 → ∀ b, b < 8 → a ≠ b → (T_Tokens a).2.1 ≠ (T_Tokens b).2.1 := by decide +kernel
theorem tyok_Tokens : ∀ k, k < 8 → parseFieldDescriptor (T_Tokens k).2.2.1 = some (ty_Tokens k) := by decide +kernel
theorem iw_Tokens : ∀ w ∈ u_ws R_Tokens T_Tokens 8, w ∈ gT := gT_ws [204, 206, 208, 210, 212, 214, 216, 218] (by decide +kernel) (by decide +kernel)
def R_Q : String := "QuarterBoards"
def T_Q : u_T := fun k => match k with
  | 0 => ("QuarterBoards", "tape", "[B", true)
  | 1 => ("QuarterBoards", "tapeLength", "I", false)
  | 2 => ("QuarterBoards", "faultPlace", "I", false)
  | 3 => ("QuarterBoards", "boards", "[LQuarterBoards$Form;", true)
  | 4 => ("QuarterBoards", "outlines", "[LQuarterBoards$Form;", true)
  | 5 => ("QuarterBoards", "boardCount", "I", false)
  | 6 => ("QuarterBoards", "outlineCount", "I", false)
  | 7 => ("QuarterBoards", "tokens", "LQuarterBoards$Tokens;", true)
  | 8 => ("QuarterBoards", "syntax", "LQuarterBoards$Syntax;", true)
  | 9 => ("QuarterBoards", "meaning", "LQuarterBoards$Meaning;", true)
  | 10 => ("QuarterBoards", "builder", "LQuarterBoards$Builder;", true)
  | 11 => ("QuarterBoards", "measure", "LQuarterBoards$Measure;", true)
  | 12 => ("QuarterBoards", "filler", "LQuarterBoards$Filler;", true)
  | 13 => ("QuarterBoards", "cutter", "LQuarterBoards$Cutter;", true)
  | 14 => ("QuarterBoards", "table", "LQuarterBoards$Table;", true)
  | 15 => ("QuarterBoards", "book", "LQuarterBoards$Book;", true)
  | _ => ("QuarterBoards", "covered", "LQuarterBoards$Shape;", true)
def ty_Q : Nat → FieldType := fun k => match k with
  | 0 => .array .byte
  | 1 => .int
  | 2 => .int
  | 3 => .array (.object "QuarterBoards$Form")
  | 4 => .array (.object "QuarterBoards$Form")
  | 5 => .int
  | 6 => .int
  | 7 => .object "QuarterBoards$Tokens"
  | 8 => .object "QuarterBoards$Syntax"
  | 9 => .object "QuarterBoards$Meaning"
  | 10 => .object "QuarterBoards$Builder"
  | 11 => .object "QuarterBoards$Measure"
  | 12 => .object "QuarterBoards$Filler"
  | 13 => .object "QuarterBoards$Cutter"
  | 14 => .object "QuarterBoards$Table"
  | 15 => .object "QuarterBoards$Book"
  | _ => .object "QuarterBoards$Shape"
theorem nm_Q : ∀ a, a < 17 → ∀ b, b < 17 → a ≠ b → (T_Q a).2.1 ≠ (T_Q b).2.1 := by decide +kernel
theorem tyok_Q : ∀ k, k < 17 → parseFieldDescriptor (T_Q k).2.2.1 = some (ty_Q k) := by decide +kernel
theorem iw_Q : ∀ w ∈ u_ws R_Q T_Q 17, w ∈ gT := gT_ws [554, 556, 558, 560, 562, 564, 566, 568, 570, 572, 574, 576, 578, 580, 582, 584, 586] (by decide +kernel) (by decide +kernel)
def R_Mo : String := "QuarterBoardsModel"
def T_Mo : u_T := fun k => match k with
  | 0 => ("QuarterBoardsModel", "thrown", "I", false)
  | 1 => ("QuarterBoardsModel", "tape", "[B", true)
  | 2 => ("QuarterBoardsModel", "taped", "I", false)
  | 3 => ("QuarterBoardsModel", "text", "[B", true)
  | 4 => ("QuarterBoardsModel", "size", "I", false)
  | 5 => ("QuarterBoardsModel", "tKind", "[I", true)
  | 6 => ("QuarterBoardsModel", "tPlace", "[I", true)
  | 7 => ("QuarterBoardsModel", "tValue", "[I", true)
  | 8 => ("QuarterBoardsModel", "tName", "[J", true)
  | 9 => ("QuarterBoardsModel", "keys", "[J", true)
  | 10 => ("QuarterBoardsModel", "tokens", "I", false)
  | 11 => ("QuarterBoardsModel", "t", "I", false)
  | 12 => ("QuarterBoardsModel", "open", "I", false)
  | 13 => ("QuarterBoardsModel", "fault", "I", false)
  | 14 => ("QuarterBoardsModel", "faultPlace", "I", false)
  | 15 => ("QuarterBoardsModel", "worst", "I", false)
  | 16 => ("QuarterBoardsModel", "worstPlace", "I", false)
  | 17 => ("QuarterBoardsModel", "place", "I", false)
  | 18 => ("QuarterBoardsModel", "sh", "[Z", true)
  | 19 => ("QuarterBoardsModel", "live", "I", false)
  | 20 => ("QuarterBoardsModel", "side", "I", false)
  | 21 => ("QuarterBoardsModel", "boards", "[I", true)
  | 22 => ("QuarterBoardsModel", "outlines", "[I", true)
  | 23 => ("QuarterBoardsModel", "things", "I", false)
  | 24 => ("QuarterBoardsModel", "thingName", "[J", true)
  | 25 => ("QuarterBoardsModel", "thingToken", "[I", true)
  | 26 => ("QuarterBoardsModel", "isOutline", "[Z", true)
  | 27 => ("QuarterBoardsModel", "thingNumber", "[I", true)
  | 28 => ("QuarterBoardsModel", "thingFrom", "[I", true)
  | 29 => ("QuarterBoardsModel", "codes", "I", false)
  | 30 => ("QuarterBoardsModel", "code", "[I", true)
  | 31 => ("QuarterBoardsModel", "numA", "[I", true)
  | 32 => ("QuarterBoardsModel", "numB", "[I", true)
  | 33 => ("QuarterBoardsModel", "numC", "[I", true)
  | 34 => ("QuarterBoardsModel", "numD", "[I", true)
  | 35 => ("QuarterBoardsModel", "codePlace", "[I", true)
  | 36 => ("QuarterBoardsModel", "waits", "[I", true)
  | 37 => ("QuarterBoardsModel", "waitA", "[I", true)
  | 38 => ("QuarterBoardsModel", "waitB", "[I", true)
  | 39 => ("QuarterBoardsModel", "waitPlace", "[I", true)
  | 40 => ("QuarterBoardsModel", "waiting", "I", false)
  | 41 => ("QuarterBoardsModel", "trail", "[I", true)
  | 42 => ("QuarterBoardsModel", "isMet", "[Z", true)
  | 43 => ("QuarterBoardsModel", "trailed", "I", false)
  | 44 => ("QuarterBoardsModel", "round", "[Z", true)
  | 45 => ("QuarterBoardsModel", "imageMany", "[I", true)
  | 46 => ("QuarterBoardsModel", "imageRow", "[I", true)
  | 47 => ("QuarterBoardsModel", "isUsed", "[Z", true)
  | 48 => ("QuarterBoardsModel", "isReady", "Z", false)
  | 49 => ("QuarterBoardsModel", "left", "[Z", true)
  | 50 => ("QuarterBoardsModel", "steps", "I", false)
  | 51 => ("QuarterBoardsModel", "lookSteps", "I", false)
  | 52 => ("QuarterBoardsModel", "found", "I", false)
  | 53 => ("QuarterBoardsModel", "isFull", "Z", false)
  | 54 => ("QuarterBoardsModel", "atQuarter", "[I", true)
  | 55 => ("QuarterBoardsModel", "atBoard", "[I", true)
  | 56 => ("QuarterBoardsModel", "atImage", "[I", true)
  | 57 => ("QuarterBoardsModel", "atOff", "[I", true)
  | 58 => ("QuarterBoardsModel", "isRemembered", "Z", false)
  | 59 => ("QuarterBoardsModel", "fBoardImage", "[I", true)
  | 60 => ("QuarterBoardsModel", "fBoardA", "[I", true)
  | 61 => ("QuarterBoardsModel", "fBoardB", "[I", true)
  | 62 => ("QuarterBoardsModel", "rImage", "[I", true)
  | 63 => ("QuarterBoardsModel", "rA", "[I", true)
  | 64 => ("QuarterBoardsModel", "rB", "[I", true)
  | 65 => ("QuarterBoardsModel", "needs", "I", false)
  | 66 => ("QuarterBoardsModel", "setMany", "I", false)
  | 67 => ("QuarterBoardsModel", "cutParts", "I", false)
  | 68 => ("QuarterBoardsModel", "cutG", "I", false)
  | 69 => ("QuarterBoardsModel", "cutA", "I", false)
  | 70 => ("QuarterBoardsModel", "cutB", "I", false)
  | 71 => ("QuarterBoardsModel", "onTable", "[I", true)
  | 72 => ("QuarterBoardsModel", "lies", "[Z", true)
  | 73 => ("QuarterBoardsModel", "claims", "I", false)
  | 74 => ("QuarterBoardsModel", "player", "[I", true)
  | 75 => ("QuarterBoardsModel", "claimOutline", "[I", true)
  | 76 => ("QuarterBoardsModel", "claimSet", "[I", true)
  | 77 => ("QuarterBoardsModel", "verdicts", "[I", true)
  | 78 => ("QuarterBoardsModel", "voids", "[I", true)
  | _ => ("QuarterBoardsModel", "shown", "[Z", true)
def ty_Mo : Nat → FieldType := fun k => match k with
  | 0 => .int
  | 1 => .array .byte
  | 2 => .int
  | 3 => .array .byte
  | 4 => .int
  | 5 => .array .int
  | 6 => .array .int
  | 7 => .array .int
  | 8 => .array .long
  | 9 => .array .long
  | 10 => .int
  | 11 => .int
  | 12 => .int
  | 13 => .int
  | 14 => .int
  | 15 => .int
  | 16 => .int
  | 17 => .int
  | 18 => .array .boolean
  | 19 => .int
  | 20 => .int
  | 21 => .array .int
  | 22 => .array .int
  | 23 => .int
  | 24 => .array .long
  | 25 => .array .int
  | 26 => .array .boolean
  | 27 => .array .int
  | 28 => .array .int
  | 29 => .int
  | 30 => .array .int
  | 31 => .array .int
  | 32 => .array .int
  | 33 => .array .int
  | 34 => .array .int
  | 35 => .array .int
  | 36 => .array .int
  | 37 => .array .int
  | 38 => .array .int
  | 39 => .array .int
  | 40 => .int
  | 41 => .array .int
  | 42 => .array .boolean
  | 43 => .int
  | 44 => .array .boolean
  | 45 => .array .int
  | 46 => .array .int
  | 47 => .array .boolean
  | 48 => .boolean
  | 49 => .array .boolean
  | 50 => .int
  | 51 => .int
  | 52 => .int
  | 53 => .boolean
  | 54 => .array .int
  | 55 => .array .int
  | 56 => .array .int
  | 57 => .array .int
  | 58 => .boolean
  | 59 => .array .int
  | 60 => .array .int
  | 61 => .array .int
  | 62 => .array .int
  | 63 => .array .int
  | 64 => .array .int
  | 65 => .int
  | 66 => .int
  | 67 => .int
  | 68 => .int
  | 69 => .int
  | 70 => .int
  | 71 => .array .int
  | 72 => .array .boolean
  | 73 => .int
  | 74 => .array .int
  | 75 => .array .int
  | 76 => .array .int
  | 77 => .array .int
  | 78 => .array .int
  | _ => .array .boolean
theorem nm_Mo : ∀ a, a < 80 → ∀ b, b < 80 → a ≠ b → (T_Mo a).2.1 ≠ (T_Mo b).2.1 := by decide +kernel
theorem tyok_Mo : ∀ k, k < 80 → parseFieldDescriptor (T_Mo k).2.2.1 = some (ty_Mo k) := by decide +kernel
theorem iw_Mo : ∀ w ∈ u_ws R_Mo T_Mo 80, w ∈ gT := gT_ws [1480, 1482, 1484, 1486, 1488, 1490, 1492, 1494, 1496, 1498, 1500, 1502, 1504, 1506, 1508, 1510, 1512, 1514, 1516, 1518, 1520, 1522, 1524, 1526, 1528, 1530, 1532, 1534, 1536, 1538, 1540, 1542, 1544, 1546, 1548, 1550, 1552, 1554, 1556, 1558, 1560, 1562, 1564, 1566, 1568, 1570, 1572, 1574, 1576, 1578, 1580, 1582, 1584, 1586, 1588, 1590, 1592, 1594, 1596, 1598, 1600, 1602, 1604, 1606, 1608, 1610, 1612, 1614, 1616, 1618, 1620, 1622, 1624, 1626, 1628, 1630, 1632, 1634, 1636, 1638] (by decide +kernel) (by decide +kernel)
def classes : List vw_C := [(R_Book, T_Book, 7), (R_Builder, T_Builder, 11), (R_Cutter, T_Cutter, 10), (R_Filler, T_Filler, 12), (R_Form, T_Form, 7), (R_Meaning, T_Meaning, 7), (R_Measure, T_Measure, 3), (R_Shape, T_Shape, 1), (R_Syntax, T_Syntax, 5), (R_Table, T_Table, 5), (R_Tokens, T_Tokens, 8), (R_Q, T_Q, 17), (R_Mo, T_Mo, 80)]
def qty (ci : Nat) : Nat → FieldType := match ci with
  | 0 => ty_Book
  | 1 => ty_Builder
  | 2 => ty_Cutter
  | 3 => ty_Filler
  | 4 => ty_Form
  | 5 => ty_Meaning
  | 6 => ty_Measure
  | 7 => ty_Shape
  | 8 => ty_Syntax
  | 9 => ty_Table
  | 10 => ty_Tokens
  | 11 => ty_Q
  | _ => ty_Mo
def qnf (ci : Nat) : Nat := match ci with
  | 0 => 7
  | 1 => 11
  | 2 => 10
  | 3 => 12
  | 4 => 7
  | 5 => 7
  | 6 => 3
  | 7 => 1
  | 8 => 5
  | 9 => 5
  | 10 => 8
  | 11 => 17
  | _ => 80
end
section
/-! ===== the core: the world from place B on, told by a pure memory; EV: a frame of a method comes to its end ===== -/
abbrev Lv : Type := List (Option Value)
abbrev MT : Type := MethodName × ByteArray × Nat × Option FieldType
abbrev DD : Type := Nat × Nat
abbrev ML : Type := Nat × (Nat → DD) × (Nat → Nat → Option Nat)
abbrev MM : Type := ML × (Nat → Nat → Int32) × (Nat → Nat → Int64)
/-- ids of the launch: class numbers, array classes, B, the strings' places -/
abbrev QX : Type := va_G × (Nat → ClassId) × Nat × (Nat → Nat) × (Nat → Nat)
def shV (B : Nat) (v : Value) : Value := match v with
  | .ref a => .ref (B + a)
  | .retAddr a => .ref a
  | .int x => .int x
  | .long x => .long x
  | .float x => .float x
  | .double x => .double x
  | .null => .null
theorem shV_cat (B : Nat) (v : Value) : (shV B v).category = v.category := by cases v <;> rfl
def vr (r : Option Nat) : Value := match r with
  | none => .null
  | some a => .ref a
def shO (B : Nat) (r : Option Nat) : Option Nat := r.map (fun a => B + a)
theorem shV_vr (B : Nat) (r : Option Nat) : shV B (vr r) = va_rf (shO B r) := by cases r <;> rfl
def qfv (B : Nat) (M : MM) (a k : Nat) (t : FieldType) : Value := match t with
  | .long => .long (M.2.2 a k)
  | .object _ => va_rf (shO B (M.1.2.2 a k))
  | .array _ => va_rf (shO B (M.1.2.2 a k))
  | _ => .int (M.2.1 a k)
def qfs (B : Nat) (M : MM) (a ci : Nat) : List Value := (List.range (qnf ci)).map (fun k => qfv B M a k (qty ci k))
/-- what the cell a holds: an object of a class below 100; 100 ints, 101 bytes, 102 booleans, 103 longs, 104.. references -/
def qent (x : QX) (M : MM) (a : Nat) : va_E :=
  if (M.1.2.1 a).1 < 100 then .inr ((M.1.2.1 a).1, qfs x.2.2.1 M a (M.1.2.1 a).1)
  else if (M.1.2.1 a).1 = 103 then .inl (x.2.1 3, (M.1.2.1 a).2, .inr (.inl (M.2.2 a)))
  else if (M.1.2.1 a).1 < 104 then .inl (x.2.1 ((M.1.2.1 a).1 - 100), (M.1.2.1 a).2, .inl (M.2.1 a))
  else .inl (x.2.1 ((M.1.2.1 a).1 - 100), (M.1.2.1 a).2, .inr (.inr (.inr (.inr (fun j => shO x.2.2.1 (M.1.2.2 a j))))))
def wsOf (x : QX) (M : MM) : va_W := (List.range M.1.1).map (fun a => (x.2.2.1 + a, qent x M a))
def tysOf (x : QX) : List (ClassId × FieldType) := [(x.2.1 0, .int), (x.2.1 1, .byte), (x.2.1 2, .boolean), (x.2.1 3, .long), (x.2.1 4, .object "QuarterBoards$Shape"), (x.2.1 5, .object "QuarterBoards$Form"), (x.2.1 6, .array .int)]
def qA (x : QX) : Nat → Prop := fun q => x.2.2.1 ≤ q
def lens2 : List Nat := [80, 7]
def byts2 : List (List Int32) := [[98, 111, 97, 114, 100, 32, 32, 32, 111, 117, 116, 108, 105, 110, 101, 32, 116, 117, 114, 110, 32, 32, 32, 32, 102, 108, 105, 112, 32, 32, 32, 32, 98, 97, 115, 101, 32, 32, 32, 32, 115, 104, 105, 102, 116, 32, 32, 32, 99, 101, 108, 108, 32, 32, 32, 32, 98, 111, 120, 32, 32, 32, 32, 32, 104, 97, 108, 102, 32, 32, 32, 32, 113, 117, 97, 114, 116, 101, 114, 32], [59, 61, 43, 45, 38, 40, 41]]
def txW : String := "board   outline turn    flip    base    shift   cell    box     half    quarter "
def txS : String := ";=+-&()"
def nestL : List Cond := lw_tbl.filter (fun w => match w with | .methodLinkNest .. => true | _ => false)
/-- the tables' side of the world -/
def KC (x : QX) (U : State) : Prop := va_K x.1 classes (tysOf x) U ∧ (∀ w ∈ nestL, va_Nw w U) ∧ vk_R R_Tokens 38 txW (x.2.2.2.1 0) U ∧ vk_R R_Tokens 70 txS (x.2.2.2.1 1) U
/-- strings and statics, below B -/
def SC (x : QX) (U : State) (H : Heap) : Prop := vk_S 2 lens2 byts2 x.2.2.2.1 x.2.2.2.2 (qA x) U H ∧ va_Z "java/lang/String" "COMPACT_STRINGS" "Z" (.int 1) (qA x) U H
def Rp (x : QX) (M : MM) (H : Heap) : Prop := H.size = x.2.2.1 + M.1.1 ∧ va_P x.1 classes (wsOf x M) H ∧ ∀ a, M.1.1 ≤ a → (M.1.2.1 a).1 = 999
theorem nest_is {w : Cond} (h : w ∈ nestL) : ∃ a i y hh, w = .methodLinkNest a i y hh := by
  have h2 := (List.mem_filter.mp h).2
  cases w <;> simp at h2
  exact ⟨_, _, _, _, rfl⟩
theorem KC.warm {x : QX} {s U : State} (hW : s.WarmedH U.vm) (h : KC x s) : KC x U := by
  refine ⟨va_K.moved hW.alike h.1, fun w hw => ?_, h.2.2.1.warm hW, h.2.2.2.warm hW⟩
  obtain ⟨a, i, y, hh, rfl⟩ := nest_is hw
  exact va_Nw.warmM hW (h.2.1 _ hw)
theorem KC.same {x : QX} {s U : State} (hv : s.vm = U.vm) (h : KC x s) : KC x U := by
  refine ⟨va_K.moved (by rw [hv]; exact Vm.Alike.refl _) h.1, fun w hw => ?_, vk_R.same hv.symm h.2.2.1, vk_R.same hv.symm h.2.2.2⟩
  obtain ⟨a, i, y, hh, rfl⟩ := nest_is hw
  exact va_Nw.same rfl hv (h.2.1 _ hw)
theorem SC.moved {x : QX} {s U : State} {H : Heap} (hv : s.vm.Alike U.vm) (h : SC x s H) : SC x U H := ⟨h.1.moved hv, h.2.moved hv⟩
theorem SC.kept {x : QX} {U : State} {H H1 : Heap} (h : SC x U H) (hq : ∀ a : Nat, a < H.size → ¬ qA x a → H1[a]? = H[a]?) : SC x U H1 := ⟨h.1.kept hq, h.2.kept hq⟩
theorem ws_get {x : QX} {M : MM} {a : Nat} (h : a < M.1.1) : (wsOf x M)[a]? = some (x.2.2.1 + a, qent x M a) := by
  simp [wsOf, h]
theorem ws_len (x : QX) (M : MM) : (wsOf x M).length = M.1.1 := by simp [wsOf]
theorem ws_D (x : QX) (M : MM) : va_D (qA x) (wsOf x M) := by
  refine ⟨fun i j p q hi hj e => ?_, fun k q hk => ?_⟩
  · have h1 : i < M.1.1 := by have := (List.getElem?_eq_some_iff.mp hi).1; rwa [ws_len] at this
    have h2 : j < M.1.1 := by have := (List.getElem?_eq_some_iff.mp hj).1; rwa [ws_len] at this
    rw [ws_get h1] at hi; rw [ws_get h2] at hj
    cases hi; cases hj
    exact Nat.add_left_cancel e
  · have h1 : k < M.1.1 := by have := (List.getElem?_eq_some_iff.mp hk).1; rwa [ws_len] at this
    rw [ws_get h1] at hk
    cases hk
    exact Nat.le_add_right _ _
theorem ws_set {x : QX} {M M1 : MM} {a : Nat} {e : va_E} (hn : M1.1.1 = M.1.1) (ha : a < M.1.1) (he : qent x M1 a = e) (ho : ∀ b, b ≠ a → qent x M1 b = qent x M b) : (wsOf x M).set a (x.2.2.1 + a, e) = wsOf x M1 := by
  apply List.ext_getElem?
  intro b
  rw [List.getElem?_set]
  by_cases hb : b < M.1.1
  · have hb1 : b < M1.1.1 := by rw [hn]; exact hb
    by_cases hab : a = b
    · subst hab
      rw [if_pos rfl, ws_get hb1, ws_len, if_pos ha, he]
    · rw [if_neg hab, ws_get hb, ws_get hb1, ho b (fun q => hab q.symm)]
  · have h1 : ¬ b < M1.1.1 := by rw [hn]; exact hb
    rw [if_neg (by omega)]
    rw [List.getElem?_eq_none (by rw [ws_len]; omega), List.getElem?_eq_none (by rw [ws_len]; omega)]
theorem Rp.lt {x : QX} {M : MM} {H : Heap} (h : Rp x M H) {a : Nat} (ha : (M.1.2.1 a).1 ≠ 999) : a < M.1.1 := by
  rcases Nat.lt_or_ge a M.1.1 with q | q
  · exact q
  · exact absurd (h.2.2 a q) ha
/-! the locals -/
def prs (B : Nat) : Nat → Lv → List (Nat × Value)
  | _, [] => []
  | i, none :: r => prs B (i + 1) r
  | i, some v :: r => (i, shV B v) :: prs B (i + 1) r
theorem prs_mem {B : Nat} : ∀ (ls : Lv) (i : Nat) (q : Nat × Value), q ∈ prs B i ls ↔ ∃ j v, ls[j]? = some (some v) ∧ q = (i + j, shV B v)
  | [], i, q => by simp [prs]
  | none :: r, i, q => by
    rw [prs, prs_mem r (i + 1) q]
    constructor
    · rintro ⟨j, v, h, rfl⟩
      exact ⟨j + 1, v, by simpa using h, by rw [show i + 1 + j = i + (j + 1) by omega]⟩
    · rintro ⟨j, v, h, rfl⟩
      cases j with
      | zero => simp at h
      | succ j => exact ⟨j, v, by simpa using h, by rw [show i + 1 + j = i + (j + 1) by omega]⟩
  | some w :: r, i, q => by
    rw [prs, List.mem_cons, prs_mem r (i + 1) q]
    constructor
    · rintro (rfl | ⟨j, v, h, rfl⟩)
      · exact ⟨0, w, rfl, rfl⟩
      · exact ⟨j + 1, v, by simpa using h, by rw [show i + 1 + j = i + (j + 1) by omega]⟩
    · rintro ⟨j, v, h, rfl⟩
      cases j with
      | zero => left; simp at h; rw [h]; rfl
      | succ j => right; exact ⟨j, v, by simpa using h, by rw [show i + 1 + j = i + (j + 1) by omega]⟩
def lvo (B : Nat) (A : Array Slot) (n : Nat) (ls : Lv) : Prop := lv_has A n (prs B 0 ls)
theorem lvo_at {B : Nat} {A : Array Slot} {n : Nat} {ls : Lv} (h : lvo B A n ls) {i : Nat} {v : Value} (hi : ls[i]? = some (some v)) : A[i]? = some (.val (shV B v)) := by
  have h1 := h.2.2 (i, shV B v) ((prs_mem ls 0 _).mpr ⟨i, v, hi, by simp⟩)
  exact h1
theorem lvo_sub {B : Nat} {A : Array Slot} {n : Nat} {ls ls' : Lv} (h : lvo B A n ls) (hs : ∀ (i : Nat) (v : Value), ls'[i]? = some (some v) → ls[i]? = some (some v)) : lvo B A n ls' := by
  refine ⟨h.1, h.2.1, fun q hq => ?_⟩
  obtain ⟨j, v, hj, rfl⟩ := (prs_mem ls' 0 q).mp hq
  have := lvo_at h (hs j v hj)
  simpa using this
/-- the place ahead of i holds no long -/
def okP (ls : Lv) (i : Nat) : Bool := match i with
  | 0 => true
  | j + 1 => match ls[j]? with
    | some (some v) => v.category == 1
    | _ => true
theorem lvo_set1 {B : Nat} {A' : Array Slot} {n i : Nat} {ls : Lv} {v : Value} (hp : okP ls i = true)
    (h : lv_has A' n ((i, shV B v) :: (prs B 0 ls).filter (fun q => !(q.1 == i) && !(q.1 + 1 == i && q.2.category == 2)))) : lvo B A' n (ls.set i (some v)) := by
  refine ⟨h.1, h.2.1, fun q hq => ?_⟩
  obtain ⟨j, w, hj, rfl⟩ := (prs_mem _ 0 q).mp hq
  apply h.2.2
  rw [List.getElem?_set] at hj
  by_cases hij : i = j
  · subst hij
    rw [if_pos rfl] at hj
    split at hj
    · cases hj; simp
    · cases hj
  · rw [if_neg hij] at hj
    refine List.mem_cons_of_mem _ (List.mem_filter.mpr ⟨(prs_mem ls 0 _).mpr ⟨j, w, hj, rfl⟩, ?_⟩)
    simp only [Nat.zero_add, Bool.and_eq_true, Bool.not_eq_true', beq_eq_false_iff_ne, Bool.and_eq_false_iff, shV_cat]
    refine ⟨fun e => hij e.symm, ?_⟩
    by_cases hj1 : j + 1 = i
    · right
      subst hj1
      simp only [okP, hj] at hp
      have : w.category = 1 := by simpa using hp
      rw [this]; decide
    · exact Or.inl hj1
theorem lvo_set2 {B : Nat} {A' : Array Slot} {n i : Nat} {ls : Lv} {v : Value} (hp : okP ls i = true)
    (h : lv_has A' n ((i, shV B v) :: (prs B 0 ls).filter (fun q => !(q.1 == i) && (!(q.1 == i + 1) && !(q.1 + 1 == i && q.2.category == 2))))) : lvo B A' n ((ls.set i (some v)).set (i + 1) none) := by
  refine ⟨h.1, h.2.1, fun q hq => ?_⟩
  obtain ⟨j, w, hj, rfl⟩ := (prs_mem _ 0 q).mp hq
  apply h.2.2
  rw [List.getElem?_set] at hj
  by_cases hij : i + 1 = j
  · subst hij
    rw [if_pos rfl] at hj
    split at hj <;> cases hj
  · rw [if_neg hij, List.getElem?_set] at hj
    by_cases hij2 : i = j
    · subst hij2
      rw [if_pos rfl] at hj
      split at hj
      · cases hj; simp
      · cases hj
    · rw [if_neg hij2] at hj
      refine List.mem_cons_of_mem _ (List.mem_filter.mpr ⟨(prs_mem ls 0 _).mpr ⟨j, w, hj, rfl⟩, ?_⟩)
      simp only [Nat.zero_add, Bool.and_eq_true, Bool.not_eq_true', beq_eq_false_iff_ne, Bool.and_eq_false_iff, shV_cat]
      refine ⟨fun e => hij2 e.symm, fun e => hij e.symm, ?_⟩
      by_cases hj1 : j + 1 = i
      · right
        subst hj1
        simp only [okP, hj] at hp
        have : w.category = 1 := by simpa using hp
        rw [this]; decide
      · exact Or.inl hj1
/-! the judgement -/
def QR (x : QX) (res : Option Value) (M' : MM) : Array Value → State → Outcome → State → Prop := fun _ st oc t =>
  oc = .returned (res.map (shV x.2.2.1)) ∧ Rp x M' t.heap ∧ va_F (qA x) st t
/-- what is fixed in a frame of the method mt -/
def CX (x : QX) (mt : MT) (p : Program) (s : State) (m : MethodId) (args : Array Value) (meth : Method) (c : Code) : Prop :=
  p.tables.exec = Jvm.exec ∧ c.code = mt.2.1 ∧ meth.sig.returnType = mt.2.2.2 ∧ c.maxLocals = mt.2.2.1 ∧ s.vm.findClass mt.1.cls = some m.cls ∧ (∀ w ∈ gT, w.before args s = true) ∧ KC x s ∧ SC x s s.heap ∧ meth.locks = false ∧ meth.name = mt.1.name ∧ x.2.2.1 ≤ s.heap.size
/-- from pc, with these locals, this stack, this memory, k cells of n slots made so far, the method mt returns res and leaves M' -/
def EV (mt : MT) (R : Room) (res : Option Value) (M' : MM) (k n pc : Nat) (ls : Lv) (st : List Value) (M : MM) : Prop :=
  ∀ (x : QX) (p : Program) (l : Launch) (e : Env) (s : State) (m : MethodId) (args : Array Value) (below : List Frame) (meth : Method) (c : Code) (H : Heap) (locs : List Loc) (A : Array Slot),
    CX x mt p s m args meth c → Rp x M H → va_S (qA x) s.heap H locs → lvo x.2.2.1 A mt.2.2.1 ls →
    W p l e R s m args below meth c H locs k n (MQ below (QR x res M') args s R.cells R.slots (qA x)) (F0 m pc A (st.map (shV x.2.2.1)))
def PreM (x : QX) (args : List Value) (M : MM) : Array Value → State → Prop := va_Pc (args.map (shV x.2.2.1)) (fun U => Rp x M U.heap ∧ KC x U ∧ SC x U U.heap)
def wsM (mt : MT) : List Cond := Cond.code mt.1 mt.2.1 mt.2.2.1 mt.2.2.2 :: gT
/-- the contract: called with args in M, mt returns res and leaves M' -/
def CT (mt : MT) (R : Room) (args : List Value) (M : MM) (res : Option Value) (M' : MM) : Prop :=
  ∀ (l : Launch) (x : QX), Met l mt.1 (wsM mt) R (PreM x args M) (QR x res M') R.cells R.slots (qA x)
def DC (mt : MT) (pc : Nat) (i : Instr) (len : Nat) : Prop := decode mt.2.1 pc = .ok (i, len)
/-- the locals at the entry -/
def lv0 (args : List Value) (n : Nat) : Lv := (args.flatMap fun v => if v.category = 2 then [some v, none] else [some v]) ++ List.replicate (n - (args.flatMap fun v => if v.category = 2 then [some v, none] else [some v]).length) none
theorem prs_app {B : Nat} : ∀ (a b : Lv) (i : Nat), prs B i (a ++ b) = prs B i a ++ prs B (i + a.length) b
  | [], b, i => by simp [prs]
  | none :: r, b, i => by simp only [List.cons_append, prs, List.length_cons]; rw [prs_app r b (i + 1), show i + 1 + r.length = i + (r.length + 1) by omega]
  | some v :: r, b, i => by simp only [List.cons_append, prs, List.length_cons]; rw [prs_app r b (i + 1), show i + 1 + r.length = i + (r.length + 1) by omega]
theorem prs_none {B : Nat} : ∀ (n i : Nat), prs B i (List.replicate n none) = []
  | 0, i => rfl
  | n + 1, i => by rw [List.replicate_succ, prs, prs_none n]
theorem prs_args (B : Nat) : ∀ (args : List Value) (i : Nat), prs B i (args.flatMap fun v => if v.category = 2 then [some v, none] else [some v]) = lv_args i (args.map (shV B))
  | [], i => rfl
  | v :: r, i => by
    rw [List.flatMap_cons, prs_app]
    by_cases h : v.category = 2
    · rw [if_pos h]
      simp only [prs, List.map_cons, lv_args, List.length_cons, List.length_nil, shV_cat, h]
      rw [prs_args B r]; rfl
    · rw [if_neg h]
      have h1 : v.category = 1 := by rcases lv_cat v with q | q; exact q; exact absurd q h
      simp only [prs, List.map_cons, lv_args, List.length_cons, List.length_nil, shV_cat, h1]
      rw [prs_args B r]; rfl
end
section
/-! ===== one rule an instruction ===== -/
theorem EV.weaken {mt : MT} {R : Room} {res : Option Value} {M' : MM} {k n pc : Nat} {ls ls' : Lv} {st : List Value} {M : MM} (hs : ∀ (i : Nat) (v : Value), ls'[i]? = some (some v) → ls[i]? = some (some v)) (h : EV mt R res M' k n pc ls' st M) : EV mt R res M' k n pc ls st M :=
  fun X p l e s m args below meth c H locs A hC hR hS hl => h X p l e s m args below meth c H locs A hC hR hS (lvo_sub hl hs)
/-- fewer locals known, place by place -/
def LSub : Lv → Lv → Prop
  | [], _ => True
  | none :: a, b => LSub a b.tail
  | some v :: a, b => b.head? = some (some v) ∧ LSub a b.tail
theorem LSub.at : ∀ {a b : Lv}, LSub a b → ∀ (i : Nat) (v : Value), a[i]? = some (some v) → b[i]? = some (some v)
  | [], b, _, i, v, h => by simp at h
  | none :: a, b, hs, i, v, h => by
    cases i with
    | zero => simp at h
    | succ i =>
      have := LSub.at (show LSub a b.tail from hs) i v (by simpa using h)
      cases b with
      | nil => simp at this
      | cons w b => simpa using this
  | some w :: a, b, hs, i, v, h => by
    cases b with
    | nil => exact absurd hs.1 (by simp)
    | cons u b =>
      cases i with
      | zero => have h1 := hs.1; simp at h1 h ⊢; rw [h1, h]
      | succ i => simpa using LSub.at (show LSub a b from hs.2) i v (by simpa using h)
theorem EV.less {mt : MT} {R : Room} {res : Option Value} {M' : MM} {k n pc : Nat} {ls ls' : Lv} {st : List Value} {M : MM} (h : EV mt R res M' k n pc ls' st M) (hs : LSub ls' ls) : EV mt R res M' k n pc ls st M := EV.weaken (LSub.at hs) h
section RULES
variable {mt : MT} {R : Room} {res : Option Value} {M' : MM} {k n pc : Nat} {ls : Lv} {st : List Value} {M : MM}
theorem e_iconst {v : Int32} {z : Int} (h : DC mt pc (.iconst z) 1) (hv : Int32.ofInt z = v) (nx : EV mt R res M' k n (pc + 1) ls (.int v :: st) M) : EV mt R res M' k n pc ls (st) M := by
  intro X p l e s m args below meth c H locs A hC hR hS hl
  exact lv_iconst hC.1 hC.2.1 h hv (nx X p l e s m args below meth c H locs A hC hR hS hl)
theorem e_bipush {v : Int32} {z : Int} (h : DC mt pc (.bipush z) 2) (hv : (Int8.ofInt z).toInt32 = v) (nx : EV mt R res M' k n (pc + 2) ls (.int v :: st) M) : EV mt R res M' k n pc ls (st) M := by
  intro X p l e s m args below meth c H locs A hC hR hS hl
  exact lv_bipush hC.1 hC.2.1 h hv (nx X p l e s m args below meth c H locs A hC hR hS hl)
theorem e_sipush {v : Int32} {z : Int} (h : DC mt pc (.sipush z) 3) (hv : (Int16.ofInt z).toInt32 = v) (nx : EV mt R res M' k n (pc + 3) ls (.int v :: st) M) : EV mt R res M' k n pc ls (st) M := by
  intro X p l e s m args below meth c H locs A hC hR hS hl
  exact lv_sipush hC.1 hC.2.1 h hv (nx X p l e s m args below meth c H locs A hC hR hS hl)
theorem e_lconst {v : Int64} {z : Fin 2} (h : DC mt pc (.lconst z) 1) (hv : Int64.ofNat (z : Nat) = v) (nx : EV mt R res M' k n (pc + 1) ls (.long v :: st) M) : EV mt R res M' k n pc ls (st) M := by
  intro X p l e s m args below meth c H locs A hC hR hS hl
  exact lv_lconst hC.1 hC.2.1 h hv (nx X p l e s m args below meth c H locs A hC hR hS hl)
theorem e_ldc {v : Int32} {ix : Nat} (h : DC mt pc (.ldc ix) 2) (hg : Cond.constant mt.1.cls ix v ∈ gT) (nx : EV mt R res M' k n (pc + 2) ls (.int v :: st) M) : EV mt R res M' k n pc ls (st) M := by
  intro X p l e s m args below meth c H locs A hC hR hS hl
  exact lv_ldc hC.1 hC.2.1 hC.2.2.2.2.1 (hC.2.2.2.2.2.1 _ hg) h (nx X p l e s m args below meth c H locs A hC hR hS hl)
theorem e_ldcw {v : Int32} {ix : Nat} (h : DC mt pc (.ldc_w ix) 3) (hg : Cond.constant mt.1.cls ix v ∈ gT) (nx : EV mt R res M' k n (pc + 3) ls (.int v :: st) M) : EV mt R res M' k n pc ls (st) M := by
  intro X p l e s m args below meth c H locs A hC hR hS hl
  exact lv_ldcw hC.1 hC.2.1 hC.2.2.2.2.1 (hC.2.2.2.2.2.1 _ hg) h (nx X p l e s m args below meth c H locs A hC hR hS hl)
theorem e_ldc2 {v : Int64} {ix : Nat} (h : DC mt pc (.ldc2_w ix) 3) (hg : Cond.constantLong mt.1.cls ix v ∈ gT) (nx : EV mt R res M' k n (pc + 3) ls (.long v :: st) M) : EV mt R res M' k n pc ls (st) M := by
  intro X p l e s m args below meth c H locs A hC hR hS hl
  exact lv_ldc2 hC.1 hC.2.1 hC.2.2.2.2.1 (hC.2.2.2.2.2.1 _ hg) h (nx X p l e s m args below meth c H locs A hC hR hS hl)
theorem e_null (h : DC mt pc .aconst_null 1) (nx : EV mt R res M' k n (pc + 1) ls (.null :: st) M) : EV mt R res M' k n pc ls (st) M := by
  intro X p l e s m args below meth c H locs A hC hR hS hl
  exact lv_null hC.1 hC.2.1 h (nx X p l e s m args below meth c H locs A hC hR hS hl)
theorem e_iload {i : Nat} {x : Int32} (h : DC mt pc (.iload i) 2) (hi : ls[i]? = some (some (.int x))) (nx : EV mt R res M' k n (pc + 2) ls (.int x :: st) M) : EV mt R res M' k n pc ls (st) M := by
  intro X p l e s m args below meth c H locs A hC hR hS hl
  exact lv_iload hC.1 hC.2.1 h (lvo_at hl hi) (nx X p l e s m args below meth c H locs A hC hR hS hl)
theorem e_iload_n {i : Fin 4} {x : Int32} (h : DC mt pc (.iload_n i) 1) (hi : ls[(i : Nat)]? = some (some (.int x))) (nx : EV mt R res M' k n (pc + 1) ls (.int x :: st) M) : EV mt R res M' k n pc ls (st) M := by
  intro X p l e s m args below meth c H locs A hC hR hS hl
  exact lv_iload_n hC.1 hC.2.1 h rfl (lvo_at hl hi) (nx X p l e s m args below meth c H locs A hC hR hS hl)
theorem e_lload {i : Nat} {x : Int64} (h : DC mt pc (.lload i) 2) (hi : ls[i]? = some (some (.long x))) (nx : EV mt R res M' k n (pc + 2) ls (.long x :: st) M) : EV mt R res M' k n pc ls (st) M := by
  intro X p l e s m args below meth c H locs A hC hR hS hl
  exact lv_lload hC.1 hC.2.1 h (lvo_at hl hi) (nx X p l e s m args below meth c H locs A hC hR hS hl)
theorem e_lload_n {i : Fin 4} {x : Int64} (h : DC mt pc (.lload_n i) 1) (hi : ls[(i : Nat)]? = some (some (.long x))) (nx : EV mt R res M' k n (pc + 1) ls (.long x :: st) M) : EV mt R res M' k n pc ls (st) M := by
  intro X p l e s m args below meth c H locs A hC hR hS hl
  exact lv_lload_n hC.1 hC.2.1 h rfl (lvo_at hl hi) (nx X p l e s m args below meth c H locs A hC hR hS hl)
theorem e_aload {i : Nat} {x : Nat} (h : DC mt pc (.aload i) 2) (hi : ls[i]? = some (some (.ref x))) (nx : EV mt R res M' k n (pc + 2) ls (.ref x :: st) M) : EV mt R res M' k n pc ls (st) M := by
  intro X p l e s m args below meth c H locs A hC hR hS hl
  exact lv_aload hC.1 hC.2.1 h (lvo_at hl hi) (nx X p l e s m args below meth c H locs A hC hR hS hl)
theorem e_aload_n {i : Fin 4} {x : Nat} (h : DC mt pc (.aload_n i) 1) (hi : ls[(i : Nat)]? = some (some (.ref x))) (nx : EV mt R res M' k n (pc + 1) ls (.ref x :: st) M) : EV mt R res M' k n pc ls (st) M := by
  intro X p l e s m args below meth c H locs A hC hR hS hl
  exact lv_aload_n hC.1 hC.2.1 h rfl (lvo_at hl hi) (nx X p l e s m args below meth c H locs A hC hR hS hl)
theorem e_aloadN {i : Nat} (h : DC mt pc (.aload i) 2) (hi : ls[i]? = some (some .null)) (nx : EV mt R res M' k n (pc + 2) ls (.null :: st) M) : EV mt R res M' k n pc ls (st) M := by
  intro X p l e s m args below meth c H locs A hC hR hS hl
  exact lv_aloadN hC.1 hC.2.1 h (lvo_at hl hi) (nx X p l e s m args below meth c H locs A hC hR hS hl)
theorem e_aload_nN {i : Fin 4} (h : DC mt pc (.aload_n i) 1) (hi : ls[(i : Nat)]? = some (some .null)) (nx : EV mt R res M' k n (pc + 1) ls (.null :: st) M) : EV mt R res M' k n pc ls (st) M := by
  intro X p l e s m args below meth c H locs A hC hR hS hl
  exact lv_aload_nN hC.1 hC.2.1 h rfl (lvo_at hl hi) (nx X p l e s m args below meth c H locs A hC hR hS hl)
theorem e_aloadX {i : Nat} {x : Nat} (h : DC mt pc (.aload i) 2) (hi : ls[i]? = some (some (.retAddr x))) (nx : EV mt R res M' k n (pc + 2) ls (.retAddr x :: st) M) : EV mt R res M' k n pc ls (st) M := by
  intro X p l e s m args below meth c H locs A hC hR hS hl
  exact lv_aload hC.1 hC.2.1 h (lvo_at hl hi) (nx X p l e s m args below meth c H locs A hC hR hS hl)
theorem e_aload_nX {i : Fin 4} {x : Nat} (h : DC mt pc (.aload_n i) 1) (hi : ls[(i : Nat)]? = some (some (.retAddr x))) (nx : EV mt R res M' k n (pc + 1) ls (.retAddr x :: st) M) : EV mt R res M' k n pc ls (st) M := by
  intro X p l e s m args below meth c H locs A hC hR hS hl
  exact lv_aload_n hC.1 hC.2.1 h rfl (lvo_at hl hi) (nx X p l e s m args below meth c H locs A hC hR hS hl)
theorem e_istore {i : Nat} {x : Int32} (h : DC mt pc (.istore i) 2) (hn : i < mt.2.2.1) (hp : okP ls i = true) (nx : EV mt R res M' k n (pc + 2) (ls.set i (some (.int x))) st M) : EV mt R res M' k n pc ls (.int x :: st) M := by
  intro X p l e s m args below meth c H locs A hC hR hS hl
  exact lv_istore hC.1 hC.2.1 h hl hn rfl (fun ls9 h9 => nx X p l e s m args below meth c H locs ls9 hC hR hS (lvo_set1 hp h9))
theorem e_istore_n {i : Fin 4} {x : Int32} (h : DC mt pc (.istore_n i) 1) (hn : (i : Nat) < mt.2.2.1) (hp : okP ls i = true) (nx : EV mt R res M' k n (pc + 1) (ls.set i (some (.int x))) st M) : EV mt R res M' k n pc ls (.int x :: st) M := by
  intro X p l e s m args below meth c H locs A hC hR hS hl
  exact lv_istore_n hC.1 hC.2.1 h rfl hl hn rfl (fun ls9 h9 => nx X p l e s m args below meth c H locs ls9 hC hR hS (lvo_set1 hp h9))
theorem e_astore {i : Nat} {x : Nat} (h : DC mt pc (.astore i) 2) (hn : i < mt.2.2.1) (hp : okP ls i = true) (nx : EV mt R res M' k n (pc + 2) (ls.set i (some (.ref x))) st M) : EV mt R res M' k n pc ls (.ref x :: st) M := by
  intro X p l e s m args below meth c H locs A hC hR hS hl
  exact lv_astore hC.1 hC.2.1 h hl hn rfl (fun ls9 h9 => nx X p l e s m args below meth c H locs ls9 hC hR hS (lvo_set1 hp h9))
theorem e_astore_n {i : Fin 4} {x : Nat} (h : DC mt pc (.astore_n i) 1) (hn : (i : Nat) < mt.2.2.1) (hp : okP ls i = true) (nx : EV mt R res M' k n (pc + 1) (ls.set i (some (.ref x))) st M) : EV mt R res M' k n pc ls (.ref x :: st) M := by
  intro X p l e s m args below meth c H locs A hC hR hS hl
  exact lv_astore_n hC.1 hC.2.1 h rfl hl hn rfl (fun ls9 h9 => nx X p l e s m args below meth c H locs ls9 hC hR hS (lvo_set1 hp h9))
theorem e_astoreN {i : Nat} (h : DC mt pc (.astore i) 2) (hn : i < mt.2.2.1) (hp : okP ls i = true) (nx : EV mt R res M' k n (pc + 2) (ls.set i (some .null)) st M) : EV mt R res M' k n pc ls (.null :: st) M := by
  intro X p l e s m args below meth c H locs A hC hR hS hl
  exact lv_astoreN hC.1 hC.2.1 h hl hn rfl (fun ls9 h9 => nx X p l e s m args below meth c H locs ls9 hC hR hS (lvo_set1 hp h9))
theorem e_astore_nN {i : Fin 4} (h : DC mt pc (.astore_n i) 1) (hn : (i : Nat) < mt.2.2.1) (hp : okP ls i = true) (nx : EV mt R res M' k n (pc + 1) (ls.set i (some .null)) st M) : EV mt R res M' k n pc ls (.null :: st) M := by
  intro X p l e s m args below meth c H locs A hC hR hS hl
  exact lv_astore_nN hC.1 hC.2.1 h rfl hl hn rfl (fun ls9 h9 => nx X p l e s m args below meth c H locs ls9 hC hR hS (lvo_set1 hp h9))
theorem e_lstore {i : Nat} {x : Int64} (h : DC mt pc (.lstore i) 2) (hn : i + 1 < mt.2.2.1) (hp : okP ls i = true) (nx : EV mt R res M' k n (pc + 2) ((ls.set i (some (.long x))).set (i + 1) none) st M) : EV mt R res M' k n pc ls (.long x :: st) M := by
  intro X p l e s m args below meth c H locs A hC hR hS hl
  exact lv_lstore hC.1 hC.2.1 h hl hn rfl (fun ls9 h9 => nx X p l e s m args below meth c H locs ls9 hC hR hS (lvo_set2 hp h9))
theorem e_lstore_n {i : Fin 4} {x : Int64} (h : DC mt pc (.lstore_n i) 1) (hn : (i : Nat) + 1 < mt.2.2.1) (hp : okP ls i = true) (nx : EV mt R res M' k n (pc + 1) ((ls.set i (some (.long x))).set (i + 1) none) st M) : EV mt R res M' k n pc ls (.long x :: st) M := by
  intro X p l e s m args below meth c H locs A hC hR hS hl
  exact lv_lstore_n hC.1 hC.2.1 h rfl hl hn rfl (fun ls9 h9 => nx X p l e s m args below meth c H locs ls9 hC hR hS (lvo_set2 hp h9))
theorem prs_idx {B i : Nat} {v : Value} {ls : Lv} (hi : ls[i]? = some (some v)) : ∃ j : Nat, (prs B 0 ls)[j]? = some (i, shV B v) :=
  List.getElem?_of_mem ((prs_mem ls 0 _).mpr ⟨i, v, hi, by simp⟩)
theorem e_iinc {i : Nat} {x v : Int32} {z : Int} (h : DC mt pc (.iinc i z) 3) (hi : ls[i]? = some (some (.int x))) (hv : x + Int32.ofInt z = v) (hn : i < mt.2.2.1) (hp : okP ls i = true) (nx : EV mt R res M' k n (pc + 3) (ls.set i (some (.int v))) st M) : EV mt R res M' k n pc ls st M := by
  intro X p l e s m args below meth c H locs A hC hR hS hl
  obtain ⟨j, hj⟩ := prs_idx (B := X.2.2.1) hi
  exact lv_iinc hC.1 hC.2.1 h hl hj hv hn rfl (fun ls9 h9 => nx X p l e s m args below meth c H locs ls9 hC hR hS (lvo_set1 hp h9))
theorem e_iadd {x y : Int32} (h : DC mt pc .iadd 1) (nx : EV mt R res M' k n (pc + 1) ls (.int (x + y) :: st) M) : EV mt R res M' k n pc ls (.int y :: .int x :: st) M := by
  intro X p l e s m args below meth c H locs A hC hR hS hl
  exact lv_iadd hC.1 hC.2.1 h (nx X p l e s m args below meth c H locs A hC hR hS hl)
theorem e_isub {x y : Int32} (h : DC mt pc .isub 1) (nx : EV mt R res M' k n (pc + 1) ls (.int (x - y) :: st) M) : EV mt R res M' k n pc ls (.int y :: .int x :: st) M := by
  intro X p l e s m args below meth c H locs A hC hR hS hl
  exact lv_isub hC.1 hC.2.1 h (nx X p l e s m args below meth c H locs A hC hR hS hl)
theorem e_imul {x y : Int32} (h : DC mt pc .imul 1) (nx : EV mt R res M' k n (pc + 1) ls (.int (x * y) :: st) M) : EV mt R res M' k n pc ls (.int y :: .int x :: st) M := by
  intro X p l e s m args below meth c H locs A hC hR hS hl
  exact lv_imul hC.1 hC.2.1 h (nx X p l e s m args below meth c H locs A hC hR hS hl)
theorem e_iand {x y : Int32} (h : DC mt pc .iand 1) (nx : EV mt R res M' k n (pc + 1) ls (.int (x &&& y) :: st) M) : EV mt R res M' k n pc ls (.int y :: .int x :: st) M := by
  intro X p l e s m args below meth c H locs A hC hR hS hl
  exact lv_iand hC.1 hC.2.1 h (nx X p l e s m args below meth c H locs A hC hR hS hl)
theorem e_ior {x y : Int32} (h : DC mt pc .ior 1) (nx : EV mt R res M' k n (pc + 1) ls (.int (x ||| y) :: st) M) : EV mt R res M' k n pc ls (.int y :: .int x :: st) M := by
  intro X p l e s m args below meth c H locs A hC hR hS hl
  exact lv_ior hC.1 hC.2.1 h (nx X p l e s m args below meth c H locs A hC hR hS hl)
theorem e_ixor {x y : Int32} (h : DC mt pc .ixor 1) (nx : EV mt R res M' k n (pc + 1) ls (.int (x ^^^ y) :: st) M) : EV mt R res M' k n pc ls (.int y :: .int x :: st) M := by
  intro X p l e s m args below meth c H locs A hC hR hS hl
  exact lv_ixor hC.1 hC.2.1 h (nx X p l e s m args below meth c H locs A hC hR hS hl)
theorem e_ladd {x y : Int64} (h : DC mt pc .ladd 1) (nx : EV mt R res M' k n (pc + 1) ls (.long (x + y) :: st) M) : EV mt R res M' k n pc ls (.long y :: .long x :: st) M := by
  intro X p l e s m args below meth c H locs A hC hR hS hl
  exact lv_ladd hC.1 hC.2.1 h (nx X p l e s m args below meth c H locs A hC hR hS hl)
theorem e_lmul {x y : Int64} (h : DC mt pc .lmul 1) (nx : EV mt R res M' k n (pc + 1) ls (.long (x * y) :: st) M) : EV mt R res M' k n pc ls (.long y :: .long x :: st) M := by
  intro X p l e s m args below meth c H locs A hC hR hS hl
  exact lv_lmul hC.1 hC.2.1 h (nx X p l e s m args below meth c H locs A hC hR hS hl)
theorem e_lor {x y : Int64} (h : DC mt pc .lor 1) (nx : EV mt R res M' k n (pc + 1) ls (.long (x ||| y) :: st) M) : EV mt R res M' k n pc ls (.long y :: .long x :: st) M := by
  intro X p l e s m args below meth c H locs A hC hR hS hl
  exact lv_lor hC.1 hC.2.1 h (nx X p l e s m args below meth c H locs A hC hR hS hl)
theorem e_ishl {x y : Int32} (h : DC mt pc .ishl 1) (nx : EV mt R res M' k n (pc + 1) ls (.int (x <<< (y &&& 31)) :: st) M) : EV mt R res M' k n pc ls (.int y :: .int x :: st) M := by
  intro X p l e s m args below meth c H locs A hC hR hS hl
  exact lv_ishl hC.1 hC.2.1 h (nx X p l e s m args below meth c H locs A hC hR hS hl)
theorem e_ishr {x y : Int32} (h : DC mt pc .ishr 1) (nx : EV mt R res M' k n (pc + 1) ls (.int (x >>> (y &&& 31)) :: st) M) : EV mt R res M' k n pc ls (.int y :: .int x :: st) M := by
  intro X p l e s m args below meth c H locs A hC hR hS hl
  exact lv_ishr hC.1 hC.2.1 h (nx X p l e s m args below meth c H locs A hC hR hS hl)
def ushr (x y : Int32) : Int32 := (x.toUInt32 >>> (y.toUInt32 &&& Int32.toUInt32 31)).toInt32
abbrev lcp (x y : Int64) : Int32 := lg_cmp x y
def irm (x y : Int32) : Int32 := x - x / y * y
theorem e_iushr {x y : Int32} (h : DC mt pc .iushr 1) (nx : EV mt R res M' k n (pc + 1) ls (.int (ushr x y) :: st) M) : EV mt R res M' k n pc ls (.int y :: .int x :: st) M := by
  intro X p l e s m args below meth c H locs A hC hR hS hl
  exact lv_iushr hC.1 hC.2.1 h rfl (nx X p l e s m args below meth c H locs A hC hR hS hl)
theorem e_lshl {x : Int64} {y : Int32} (h : DC mt pc .lshl 1) (nx : EV mt R res M' k n (pc + 1) ls (.long (x <<< (y.toInt64 &&& 63)) :: st) M) : EV mt R res M' k n pc ls (.int y :: .long x :: st) M := by
  intro X p l e s m args below meth c H locs A hC hR hS hl
  exact lv_lshl hC.1 hC.2.1 h rfl (nx X p l e s m args below meth c H locs A hC hR hS hl)
theorem e_ineg {x : Int32} (h : DC mt pc .ineg 1) (nx : EV mt R res M' k n (pc + 1) ls (.int (-x) :: st) M) : EV mt R res M' k n pc ls (.int x :: st) M := by
  intro X p l e s m args below meth c H locs A hC hR hS hl
  exact lv_ineg hC.1 hC.2.1 h (nx X p l e s m args below meth c H locs A hC hR hS hl)
theorem e_idiv {x y : Int32} (h : DC mt pc .idiv 1) (hy : ¬ y = 0) (nx : EV mt R res M' k n (pc + 1) ls (.int (x / y) :: st) M) : EV mt R res M' k n pc ls (.int y :: .int x :: st) M := by
  intro X p l e s m args below meth c H locs A hC hR hS hl
  exact lv_idiv hC.1 hC.2.1 h hy (nx X p l e s m args below meth c H locs A hC hR hS hl)
theorem e_irem {x y : Int32} (h : DC mt pc .irem 1) (hy : ¬ y = 0) (nx : EV mt R res M' k n (pc + 1) ls (.int (irm x y) :: st) M) : EV mt R res M' k n pc ls (.int y :: .int x :: st) M := by
  intro X p l e s m args below meth c H locs A hC hR hS hl
  exact lv_irem hC.1 hC.2.1 h hy (nx X p l e s m args below meth c H locs A hC hR hS hl)
theorem e_i2l {x : Int32} (h : DC mt pc .i2l 1) (nx : EV mt R res M' k n (pc + 1) ls (.long x.toInt64 :: st) M) : EV mt R res M' k n pc ls (.int x :: st) M := by
  intro X p l e s m args below meth c H locs A hC hR hS hl
  exact lv_i2l hC.1 hC.2.1 h rfl (nx X p l e s m args below meth c H locs A hC hR hS hl)
theorem e_l2i {x : Int64} (h : DC mt pc .l2i 1) (nx : EV mt R res M' k n (pc + 1) ls (.int x.toInt32 :: st) M) : EV mt R res M' k n pc ls (.long x :: st) M := by
  intro X p l e s m args below meth c H locs A hC hR hS hl
  exact lv_l2i hC.1 hC.2.1 h rfl (nx X p l e s m args below meth c H locs A hC hR hS hl)
theorem e_i2b {x : Int32} (h : DC mt pc .i2b 1) (nx : EV mt R res M' k n (pc + 1) ls (.int x.toInt8.toInt32 :: st) M) : EV mt R res M' k n pc ls (.int x :: st) M := by
  intro X p l e s m args below meth c H locs A hC hR hS hl
  exact lv_i2b hC.1 hC.2.1 h rfl (nx X p l e s m args below meth c H locs A hC hR hS hl)
theorem e_i2c {x : Int32} (h : DC mt pc .i2c 1) (nx : EV mt R res M' k n (pc + 1) ls (.int (x.toUInt32 % 65536).toInt32 :: st) M) : EV mt R res M' k n pc ls (.int x :: st) M := by
  intro X p l e s m args below meth c H locs A hC hR hS hl
  exact lv_i2c hC.1 hC.2.1 h rfl (nx X p l e s m args below meth c H locs A hC hR hS hl)
theorem e_lcmp {x y : Int64} (h : DC mt pc .lcmp 1) (nx : EV mt R res M' k n (pc + 1) ls (.int (lcp x y) :: st) M) : EV mt R res M' k n pc ls (.long y :: .long x :: st) M := by
  intro X p l e s m args below meth c H locs A hC hR hS hl
  exact W.lcmp hC.1 hC.2.1 h (nx X p l e s m args below meth c H locs A hC hR hS hl)
theorem e_dup {v : Value} (h : DC mt pc .dup 1) (hv : v.category = 1) (nx : EV mt R res M' k n (pc + 1) ls (v :: v :: st) M) : EV mt R res M' k n pc ls (v :: st) M := by
  intro X p l e s m args below meth c H locs A hC hR hS hl
  exact lv_dup hC.1 hC.2.1 h (by rw [shV_cat]; exact hv) (nx X p l e s m args below meth c H locs A hC hR hS hl)
theorem e_pop {v : Value} (h : DC mt pc .pop 1) (hv : v.category = 1) (nx : EV mt R res M' k n (pc + 1) ls (st) M) : EV mt R res M' k n pc ls (v :: st) M := by
  intro X p l e s m args below meth c H locs A hC hR hS hl
  exact lv_pop hC.1 hC.2.1 h (by rw [shV_cat]; exact hv) (nx X p l e s m args below meth c H locs A hC hR hS hl)
theorem e_dup2 {v w : Value} (h : DC mt pc .dup2 1) (hv : v.category = 1) (hw : w.category = 1) (nx : EV mt R res M' k n (pc + 1) ls (v :: w :: v :: w :: st) M) : EV mt R res M' k n pc ls (v :: w :: st) M := by
  intro X p l e s m args below meth c H locs A hC hR hS hl
  exact lv_dup2_11 hC.1 hC.2.1 h (by rw [shV_cat]; exact hv) (by rw [shV_cat]; exact hw) (nx X p l e s m args below meth c H locs A hC hR hS hl)
theorem e_if_eq {x : Int32} {off : Int} (tgt : Nat) (h : DC mt pc (.ifCond .eq off) 3) (ht : (pc : Int) + off = (tgt : Int)) (n1 : x = 0 → EV mt R res M' k n tgt ls st M) (n2 : ¬ (x = 0) → EV mt R res M' k n (pc + 3) ls st M) : EV mt R res M' k n pc ls (.int x :: st) M := by
  intro X p l e s m args below meth c H locs A hC hR hS hl
  exact lv_if_eq hC.1 hC.2.1 h ht (fun q => n1 q X p l e s m args below meth c H locs A hC hR hS hl) (fun q => n2 q X p l e s m args below meth c H locs A hC hR hS hl)
theorem e_ic_eq {x y : Int32} {off : Int} (tgt : Nat) (h : DC mt pc (.if_icmp .eq off) 3) (ht : (pc : Int) + off = (tgt : Int)) (n1 : x = y → EV mt R res M' k n tgt ls st M) (n2 : ¬ (x = y) → EV mt R res M' k n (pc + 3) ls st M) : EV mt R res M' k n pc ls (.int y :: .int x :: st) M := by
  intro X p l e s m args below meth c H locs A hC hR hS hl
  exact lv_icmp_eq hC.1 hC.2.1 h ht (fun q => n1 q X p l e s m args below meth c H locs A hC hR hS hl) (fun q => n2 q X p l e s m args below meth c H locs A hC hR hS hl)
theorem e_if_ne {x : Int32} {off : Int} (tgt : Nat) (h : DC mt pc (.ifCond .ne off) 3) (ht : (pc : Int) + off = (tgt : Int)) (n1 : ¬ x = 0 → EV mt R res M' k n tgt ls st M) (n2 : x = 0 → EV mt R res M' k n (pc + 3) ls st M) : EV mt R res M' k n pc ls (.int x :: st) M := by
  intro X p l e s m args below meth c H locs A hC hR hS hl
  exact lv_if_ne hC.1 hC.2.1 h ht (fun q => n1 q X p l e s m args below meth c H locs A hC hR hS hl) (fun q => n2 q X p l e s m args below meth c H locs A hC hR hS hl)
theorem e_ic_ne {x y : Int32} {off : Int} (tgt : Nat) (h : DC mt pc (.if_icmp .ne off) 3) (ht : (pc : Int) + off = (tgt : Int)) (n1 : ¬ x = y → EV mt R res M' k n tgt ls st M) (n2 : x = y → EV mt R res M' k n (pc + 3) ls st M) : EV mt R res M' k n pc ls (.int y :: .int x :: st) M := by
  intro X p l e s m args below meth c H locs A hC hR hS hl
  exact lv_icmp_ne hC.1 hC.2.1 h ht (fun q => n1 q X p l e s m args below meth c H locs A hC hR hS hl) (fun q => n2 q X p l e s m args below meth c H locs A hC hR hS hl)
theorem e_if_lt {x : Int32} {off : Int} (tgt : Nat) (h : DC mt pc (.ifCond .lt off) 3) (ht : (pc : Int) + off = (tgt : Int)) (n1 : x < 0 → EV mt R res M' k n tgt ls st M) (n2 : ¬ (x < 0) → EV mt R res M' k n (pc + 3) ls st M) : EV mt R res M' k n pc ls (.int x :: st) M := by
  intro X p l e s m args below meth c H locs A hC hR hS hl
  exact lv_if_lt hC.1 hC.2.1 h ht (fun q => n1 q X p l e s m args below meth c H locs A hC hR hS hl) (fun q => n2 q X p l e s m args below meth c H locs A hC hR hS hl)
theorem e_ic_lt {x y : Int32} {off : Int} (tgt : Nat) (h : DC mt pc (.if_icmp .lt off) 3) (ht : (pc : Int) + off = (tgt : Int)) (n1 : x < y → EV mt R res M' k n tgt ls st M) (n2 : ¬ (x < y) → EV mt R res M' k n (pc + 3) ls st M) : EV mt R res M' k n pc ls (.int y :: .int x :: st) M := by
  intro X p l e s m args below meth c H locs A hC hR hS hl
  exact lv_icmp_lt hC.1 hC.2.1 h ht (fun q => n1 q X p l e s m args below meth c H locs A hC hR hS hl) (fun q => n2 q X p l e s m args below meth c H locs A hC hR hS hl)
theorem e_if_ge {x : Int32} {off : Int} (tgt : Nat) (h : DC mt pc (.ifCond .ge off) 3) (ht : (pc : Int) + off = (tgt : Int)) (n1 : 0 ≤ x → EV mt R res M' k n tgt ls st M) (n2 : ¬ (0 ≤ x) → EV mt R res M' k n (pc + 3) ls st M) : EV mt R res M' k n pc ls (.int x :: st) M := by
  intro X p l e s m args below meth c H locs A hC hR hS hl
  exact lv_if_ge hC.1 hC.2.1 h ht (fun q => n1 q X p l e s m args below meth c H locs A hC hR hS hl) (fun q => n2 q X p l e s m args below meth c H locs A hC hR hS hl)
theorem e_ic_ge {x y : Int32} {off : Int} (tgt : Nat) (h : DC mt pc (.if_icmp .ge off) 3) (ht : (pc : Int) + off = (tgt : Int)) (n1 : y ≤ x → EV mt R res M' k n tgt ls st M) (n2 : ¬ (y ≤ x) → EV mt R res M' k n (pc + 3) ls st M) : EV mt R res M' k n pc ls (.int y :: .int x :: st) M := by
  intro X p l e s m args below meth c H locs A hC hR hS hl
  exact lv_icmp_ge hC.1 hC.2.1 h ht (fun q => n1 q X p l e s m args below meth c H locs A hC hR hS hl) (fun q => n2 q X p l e s m args below meth c H locs A hC hR hS hl)
theorem e_if_gt {x : Int32} {off : Int} (tgt : Nat) (h : DC mt pc (.ifCond .gt off) 3) (ht : (pc : Int) + off = (tgt : Int)) (n1 : 0 < x → EV mt R res M' k n tgt ls st M) (n2 : ¬ (0 < x) → EV mt R res M' k n (pc + 3) ls st M) : EV mt R res M' k n pc ls (.int x :: st) M := by
  intro X p l e s m args below meth c H locs A hC hR hS hl
  exact lv_if_gt hC.1 hC.2.1 h ht (fun q => n1 q X p l e s m args below meth c H locs A hC hR hS hl) (fun q => n2 q X p l e s m args below meth c H locs A hC hR hS hl)
theorem e_ic_gt {x y : Int32} {off : Int} (tgt : Nat) (h : DC mt pc (.if_icmp .gt off) 3) (ht : (pc : Int) + off = (tgt : Int)) (n1 : y < x → EV mt R res M' k n tgt ls st M) (n2 : ¬ (y < x) → EV mt R res M' k n (pc + 3) ls st M) : EV mt R res M' k n pc ls (.int y :: .int x :: st) M := by
  intro X p l e s m args below meth c H locs A hC hR hS hl
  exact lv_icmp_gt hC.1 hC.2.1 h ht (fun q => n1 q X p l e s m args below meth c H locs A hC hR hS hl) (fun q => n2 q X p l e s m args below meth c H locs A hC hR hS hl)
theorem e_if_le {x : Int32} {off : Int} (tgt : Nat) (h : DC mt pc (.ifCond .le off) 3) (ht : (pc : Int) + off = (tgt : Int)) (n1 : x ≤ 0 → EV mt R res M' k n tgt ls st M) (n2 : ¬ (x ≤ 0) → EV mt R res M' k n (pc + 3) ls st M) : EV mt R res M' k n pc ls (.int x :: st) M := by
  intro X p l e s m args below meth c H locs A hC hR hS hl
  exact lv_if_le hC.1 hC.2.1 h ht (fun q => n1 q X p l e s m args below meth c H locs A hC hR hS hl) (fun q => n2 q X p l e s m args below meth c H locs A hC hR hS hl)
theorem e_ic_le {x y : Int32} {off : Int} (tgt : Nat) (h : DC mt pc (.if_icmp .le off) 3) (ht : (pc : Int) + off = (tgt : Int)) (n1 : x ≤ y → EV mt R res M' k n tgt ls st M) (n2 : ¬ (x ≤ y) → EV mt R res M' k n (pc + 3) ls st M) : EV mt R res M' k n pc ls (.int y :: .int x :: st) M := by
  intro X p l e s m args below meth c H locs A hC hR hS hl
  exact lv_icmp_le hC.1 hC.2.1 h ht (fun q => n1 q X p l e s m args below meth c H locs A hC hR hS hl) (fun q => n2 q X p l e s m args below meth c H locs A hC hR hS hl)
theorem e_goto {off : Int} (tgt : Nat) (h : DC mt pc (.goto off) 3) (ht : (pc : Int) + off = (tgt : Int)) (nx : EV mt R res M' k n tgt ls st M) : EV mt R res M' k n pc ls st M := by
  intro X p l e s m args below meth c H locs A hC hR hS hl
  exact lv_goto hC.1 hC.2.1 h ht (nx X p l e s m args below meth c H locs A hC hR hS hl)
theorem e_ifnull {x : Nat} {off : Int} (h : DC mt pc (.ifnull off) 3) (nx : EV mt R res M' k n (pc + 3) ls st M) : EV mt R res M' k n pc ls (.ref x :: st) M := by
  intro X p l e s m args below meth c H locs A hC hR hS hl
  exact lv_ifnull hC.1 hC.2.1 h (nx X p l e s m args below meth c H locs A hC hR hS hl)
theorem e_ifnullN {off : Int} (tgt : Nat) (h : DC mt pc (.ifnull off) 3) (ht : (pc : Int) + off = (tgt : Int)) (nx : EV mt R res M' k n tgt ls st M) : EV mt R res M' k n pc ls (.null :: st) M := by
  intro X p l e s m args below meth c H locs A hC hR hS hl
  exact lv_ifnullN hC.1 hC.2.1 h ht (nx X p l e s m args below meth c H locs A hC hR hS hl)
theorem e_ifnonnull {x : Nat} {off : Int} (tgt : Nat) (h : DC mt pc (.ifnonnull off) 3) (ht : (pc : Int) + off = (tgt : Int)) (nx : EV mt R res M' k n tgt ls st M) : EV mt R res M' k n pc ls (.ref x :: st) M := by
  intro X p l e s m args below meth c H locs A hC hR hS hl
  exact lv_ifnonnull hC.1 hC.2.1 h ht (nx X p l e s m args below meth c H locs A hC hR hS hl)
theorem e_ifnonnullN {off : Int} (h : DC mt pc (.ifnonnull off) 3) (nx : EV mt R res M' k n (pc + 3) ls st M) : EV mt R res M' k n pc ls (.null :: st) M := by
  intro X p l e s m args below meth c H locs A hC hR hS hl
  exact lv_ifnonnullN hC.1 hC.2.1 h (nx X p l e s m args below meth c H locs A hC hR hS hl)
theorem e_tabIn {x : Int32} {dflt lo hi off : Int} {offs : Array Int} {len : Nat} (tgt : Nat) (h : DC mt pc (.tableswitch dflt lo hi offs) len) (h1 : ¬ x.toInt < lo) (h2 : ¬ hi < x.toInt) (ho : offs[(x.toInt - lo).toNat]? = some off) (ht : (pc : Int) + off = (tgt : Int)) (nx : EV mt R res M' k n tgt ls st M) : EV mt R res M' k n pc ls (.int x :: st) M := by
  intro X p l e s m args below meth c H locs A hC hR hS hl
  exact lv_tableIn hC.1 hC.2.1 h h1 h2 ho ht (nx X p l e s m args below meth c H locs A hC hR hS hl)
theorem e_tabOut {x : Int32} {dflt lo hi : Int} {offs : Array Int} {len : Nat} (tgt : Nat) (h : DC mt pc (.tableswitch dflt lo hi offs) len) (h1 : x.toInt < lo ∨ hi < x.toInt) (ht : (pc : Int) + dflt = (tgt : Int)) (nx : EV mt R res M' k n tgt ls st M) : EV mt R res M' k n pc ls (.int x :: st) M := by
  intro X p l e s m args below meth c H locs A hC hR hS hl
  exact lv_tableOut hC.1 hC.2.1 h h1 ht (nx X p l e s m args below meth c H locs A hC hR hS hl)
end RULES
end
section
/-! ===== the memory: fields and arrays ===== -/
def upd2 {α : Type} (f : Nat → Nat → α) (a k : Nat) (v : α) : Nat → Nat → α := fun b j => if b = a then (if j = k then v else f b j) else f b j
theorem upd2_ne {α : Type} {f : Nat → Nat → α} {a k b : Nat} {v : α} (h : b ≠ a) : upd2 f a k v b = f b := by funext j; simp [upd2, h]
theorem upd2_at {α : Type} {f : Nat → Nat → α} {a k : Nat} {v : α} : upd2 f a k v a k = v := by simp [upd2]
theorem upd2_nk {α : Type} {f : Nat → Nat → α} {a k j : Nat} {v : α} (h : j ≠ k) : upd2 f a k v a j = f a j := by simp [upd2, h]
def inb (i : Int32) (n : Nat) : Prop := ¬ (i < 0 ∨ n ≤ i.toNatClampNeg)
def gI (ci k a : Nat) (M : MM) : Option Int32 := if (M.1.2.1 a).1 = ci then some (M.2.1 a k) else none
def gL (ci k a : Nat) (M : MM) : Option Int64 := if (M.1.2.1 a).1 = ci then some (M.2.2 a k) else none
def gR (ci k a : Nat) (M : MM) : Option Nat := if (M.1.2.1 a).1 = ci then M.1.2.2 a k else none
def pI (ci k a : Nat) (v : Int32) (M : MM) : Option MM := if (M.1.2.1 a).1 = ci then some (M.1, upd2 M.2.1 a k v, M.2.2) else none
def pZ (ci k a : Nat) (v : Int32) (M : MM) : Option MM := if (M.1.2.1 a).1 = ci ∧ v &&& 1 = v then some (M.1, upd2 M.2.1 a k v, M.2.2) else none
def pL (ci k a : Nat) (v : Int64) (M : MM) : Option MM := if (M.1.2.1 a).1 = ci then some (M.1, M.2.1, upd2 M.2.2 a k v) else none
def pR (ci k a r : Nat) (M : MM) : Option MM := if (M.1.2.1 a).1 = ci then some ((M.1.1, M.1.2.1, upd2 M.1.2.2 a k (some r)), M.2) else none
def aI (kd a : Nat) (i : Int32) (M : MM) : Option Int32 := if (M.1.2.1 a).1 = kd ∧ ¬ (i < 0 ∨ (M.1.2.1 a).2 ≤ i.toNatClampNeg) then some (M.2.1 a i.toNatClampNeg) else none
def aL (a : Nat) (i : Int32) (M : MM) : Option Int64 := if (M.1.2.1 a).1 = 103 ∧ ¬ (i < 0 ∨ (M.1.2.1 a).2 ≤ i.toNatClampNeg) then some (M.2.2 a i.toNatClampNeg) else none
def aR (kd a : Nat) (i : Int32) (M : MM) : Option Nat := if (M.1.2.1 a).1 = kd ∧ ¬ (i < 0 ∨ (M.1.2.1 a).2 ≤ i.toNatClampNeg) then M.1.2.2 a i.toNatClampNeg else none
def aN (a : Nat) (M : MM) : Option Int32 := if 100 ≤ (M.1.2.1 a).1 ∧ (M.1.2.1 a).1 < 107 then some (Int32.ofNat (M.1.2.1 a).2) else none
def nrw (kd : Nat) (v : Int32) : Int32 := if kd = 101 then v.toInt8.toInt32 else if kd = 102 then v &&& 1 else v
def sI (kd a : Nat) (i v : Int32) (M : MM) : Option MM := if (M.1.2.1 a).1 = kd ∧ ¬ (i < 0 ∨ (M.1.2.1 a).2 ≤ i.toNatClampNeg) then some (M.1, upd2 M.2.1 a i.toNatClampNeg (nrw kd v), M.2.2) else none
def sL (a : Nat) (i : Int32) (v : Int64) (M : MM) : Option MM := if (M.1.2.1 a).1 = 103 ∧ ¬ (i < 0 ∨ (M.1.2.1 a).2 ≤ i.toNatClampNeg) then some (M.1, M.2.1, upd2 M.2.2 a i.toNatClampNeg v) else none
/-- a reference r of the class ci into an array of kind kd -/
def sR (kd ci a : Nat) (i : Int32) (r : Nat) (M : MM) : Option MM := if ((M.1.2.1 a).1 = kd ∧ ¬ (i < 0 ∨ (M.1.2.1 a).2 ≤ i.toNatClampNeg)) ∧ (M.1.2.1 r).1 = ci then some ((M.1.1, M.1.2.1, upd2 M.1.2.2 a i.toNatClampNeg (some r)), M.2) else none
theorem qent_congr {x : QX} {M M1 : MM} {a : Nat} (h1 : M1.1.2.1 a = M.1.2.1 a) (h2 : M1.2.1 a = M.2.1 a) (h3 : M1.2.2 a = M.2.2 a) (h4 : M1.1.2.2 a = M.1.2.2 a) : qent x M1 a = qent x M a := by
  have h5 : ∀ ci, qfs x.2.2.1 M1 a ci = qfs x.2.2.1 M a ci := by
    intro ci
    unfold qfs
    apply List.map_congr_left
    intro k _
    unfold qfv
    rw [h2, h3, h4]
  unfold qent
  rw [h1, h2, h3, h4, h5]
/-- a class of the list -/
def CK (ci : Nat) (q : vw_C) : Prop := classes[ci]? = some q ∧ q.2.2 = qnf ci ∧ (∀ w ∈ u_ws q.1 q.2.1 q.2.2, w ∈ gT) ∧ (∀ k, k < q.2.2 → parseFieldDescriptor (q.2.1 k).2.2.1 = some (qty ci k)) ∧ ∀ a, a < q.2.2 → ∀ b, b < q.2.2 → a ≠ b → (q.2.1 a).2.1 ≠ (q.2.1 b).2.1
theorem CK.lt {ci : Nat} {q : vw_C} (h : CK ci q) : ci < 13 := (List.getElem?_eq_some_iff.mp h.1).1
def FL (own : String) (ix ci kf : Nat) (fin : Bool) : Prop := ∃ q : vw_C, CK ci q ∧ kf < q.2.2 ∧ (q.2.1 kf).1 = q.1 ∧ (q.2.1 kf).2.2.2 = fin ∧ Cond.fieldLink own ix (q.2.1 kf).1 (q.2.1 kf).2.1 (q.2.1 kf).2.2.1 ∈ gT
def FI (ci kf : Nat) : Prop := ∀ (B : Nat) (M : MM) (a : Nat), qfv B M a kf (qty ci kf) = .int (M.2.1 a kf)
def FJ (ci kf : Nat) : Prop := ∀ (B : Nat) (M : MM) (a : Nat), qfv B M a kf (qty ci kf) = .long (M.2.2 a kf)
def FR (ci kf : Nat) : Prop := ∀ (B : Nat) (M : MM) (a : Nat), qfv B M a kf (qty ci kf) = va_rf (shO B (M.1.2.2 a kf))
theorem qfs_at {B : Nat} {M : MM} {a ci kf : Nat} (h : kf < qnf ci) : (qfs B M a ci)[kf]? = some (qfv B M a kf (qty ci kf)) := by simp [qfs, h]
theorem qent_obj {x : QX} {M : MM} {a ci : Nat} (hc : (M.1.2.1 a).1 = ci) (h : ci < 13) : qent x M a = .inr (ci, qfs x.2.2.1 M a ci) := by
  unfold qent
  rw [hc, if_pos (by omega)]
theorem qent_int {x : QX} {M : MM} {a kd : Nat} (hc : (M.1.2.1 a).1 = kd) (h : 100 ≤ kd ∧ kd < 103) : qent x M a = .inl (x.2.1 (kd - 100), (M.1.2.1 a).2, .inl (M.2.1 a)) := by
  unfold qent
  rw [hc, if_neg (by omega), if_neg (by omega), if_pos (by omega)]
theorem qent_long {x : QX} {M : MM} {a : Nat} (hc : (M.1.2.1 a).1 = 103) : qent x M a = .inl (x.2.1 3, (M.1.2.1 a).2, .inr (.inl (M.2.2 a))) := by
  unfold qent
  rw [hc, if_neg (by omega), if_pos rfl]
theorem qent_ref {x : QX} {M : MM} {a kd : Nat} (hc : (M.1.2.1 a).1 = kd) (h : 104 ≤ kd) : qent x M a = .inl (x.2.1 (kd - 100), (M.1.2.1 a).2, .inr (.inr (.inr (.inr (fun j => shO x.2.2.1 (M.1.2.2 a j)))))) := by
  unfold qent
  rw [hc, if_neg (by omega), if_neg (by omega), if_neg (by omega)]
section MEMR
variable {mt : MT} {R : Room} {res : Option Value} {M' : MM} {k n pc : Nat} {ls : Lv} {st : List Value} {M : MM}
theorem e_getV {ci kf ix a : Nat} {fin : Bool} {v : Value} (h : DC mt pc (.getfield ix) 3) (f : FL mt.1.cls ix ci kf fin) (hc : (M.1.2.1 a).1 = ci) (hq : ∀ B : Nat, qfv B M a kf (qty ci kf) = shV B v) (nx : EV mt R res M' k n (pc + 3) ls (v :: st) M) : EV mt R res M' k n pc ls (.ref a :: st) M := by
  intro X p l e s m args below meth c H locs A hC hR hS hl
  obtain ⟨q, ck, hk, ho, hfin, hlink⟩ := f
  have h13 := ck.lt
  have hlt : a < M.1.1 := hR.lt (by omega)
  have he := ws_get (x := X) hlt
  rw [qent_obj hc h13] at he
  exact va_get (D := X.1) (ci := ci) (C := q.1) (T := q.2.1) (N := q.2.2) hC.1 hC.2.1 hC.2.2.2.2.2.1 ck.2.2.1 hC.2.2.2.2.1 hC.2.2.2.2.2.2.1.1 hR.2.1 a he ck.1 kf hk (hC.2.2.2.2.2.1 _ hlink) (fun _ h9 => h9) (by rw [qfs_at (by rw [← ck.2.1]; exact hk), hq X.2.2.1]) h (nx X p l e s m args below meth c H locs A hC hR hS hl)
theorem gI_spec {ci kf a : Nat} {v : Int32} (h : gI ci kf a M = some v) : (M.1.2.1 a).1 = ci ∧ M.2.1 a kf = v := by
  unfold gI at h; split at h
  · next hc => exact ⟨hc, Option.some.inj h⟩
  · cases h
theorem gL_spec {ci kf a : Nat} {v : Int64} (h : gL ci kf a M = some v) : (M.1.2.1 a).1 = ci ∧ M.2.2 a kf = v := by
  unfold gL at h; split at h
  · next hc => exact ⟨hc, Option.some.inj h⟩
  · cases h
theorem gR_spec {ci kf a r : Nat} (h : gR ci kf a M = some r) : (M.1.2.1 a).1 = ci ∧ M.1.2.2 a kf = some r := by
  unfold gR at h; split at h
  · next hc => exact ⟨hc, h⟩
  · cases h
theorem e_getI {ci kf ix a : Nat} {fin : Bool} {v : Int32} (h : DC mt pc (.getfield ix) 3) (f : FL mt.1.cls ix ci kf fin) (hq : FI ci kf) (hg : gI ci kf a M = some v) (nx : EV mt R res M' k n (pc + 3) ls (.int v :: st) M) : EV mt R res M' k n pc ls (.ref a :: st) M :=
  e_getV h f (gI_spec hg).1 (fun B => by rw [hq B M a, (gI_spec hg).2]; rfl) nx
theorem e_getL {ci kf ix a : Nat} {fin : Bool} {v : Int64} (h : DC mt pc (.getfield ix) 3) (f : FL mt.1.cls ix ci kf fin) (hq : FJ ci kf) (hg : gL ci kf a M = some v) (nx : EV mt R res M' k n (pc + 3) ls (.long v :: st) M) : EV mt R res M' k n pc ls (.ref a :: st) M :=
  e_getV h f (gL_spec hg).1 (fun B => by rw [hq B M a, (gL_spec hg).2]; rfl) nx
theorem e_getR {ci kf ix a r : Nat} {fin : Bool} (h : DC mt pc (.getfield ix) 3) (f : FL mt.1.cls ix ci kf fin) (hq : FR ci kf) (hg : gR ci kf a M = some r) (nx : EV mt R res M' k n (pc + 3) ls (.ref r :: st) M) : EV mt R res M' k n pc ls (.ref a :: st) M :=
  e_getV h f (gR_spec hg).1 (fun B => by rw [hq B M a, (gR_spec hg).2]; rfl) nx
/-- a field is written: M1 is M but there -/
theorem e_putV {ci kf ix a : Nat} {v : Value} {M1 : MM} {fin : Bool} (h : DC mt pc (.putfield ix) 3) (f : FL mt.1.cls ix ci kf fin) (hfn : fin = false ∨ (mt.1.name = "<init>" ∧ ∃ q : vw_C, classes[ci]? = some q ∧ q.1 = mt.1.cls)) (hc : (M.1.2.1 a).1 = ci)
    (hn : ∀ B : Nat, narrow (qty ci kf) (shV B v) = shV B v ∧ fits (qty ci kf) (shV B v) = true) (h0 : M1.1.1 = M.1.1) (h1 : M1.1.2.1 = M.1.2.1) (hb : ∀ b, b ≠ a → M1.2.1 b = M.2.1 b ∧ M1.2.2 b = M.2.2 b ∧ M1.1.2.2 b = M.1.2.2 b)
    (hj : ∀ (B j : Nat), j ≠ kf → ∀ t, qfv B M1 a j t = qfv B M a j t) (hv : ∀ B : Nat, qfv B M1 a kf (qty ci kf) = shV B v)
    (nx : EV mt R res M' k n (pc + 3) ls st M1) : EV mt R res M' k n pc ls (v :: .ref a :: st) M := by
  intro X p l e s m args below meth c H locs A hC hR hS hl
  obtain ⟨q, ck, hk, ho, hfin, hlink⟩ := f
  have h13 := ck.lt
  have hlt : a < M.1.1 := hR.lt (by omega)
  have he := ws_get (x := X) hlt
  rw [qent_obj hc h13] at he
  have hP := hR.2.1
  have hD := ws_D X M
  have hK := hC.2.2.2.2.2.2.1.1
  have hts := hC.2.2.2.2.2.1
  have hin := ck.2.2.1
  have hown := hC.2.2.2.2.1
  have hap := va_apart (own := mt.1.cls) hts hin (qty ci) ck.2.2.2.1 ck.2.2.2.2 hK ck.1
  obtain ⟨r, g1, cell, q1, q2, q3, q4⟩ := hP a _ he
  have hr : r = q := Option.some.inj (g1.symm.trans ck.1)
  subst hr
  obtain ⟨hSl, hfc, kC, hkC, hkind⟩ := hK.1 ci _ ck.1
  obtain ⟨cf, kf', fi, fd, hi, hsl⟩ := hSl kf hk
  have hlay := hts _ (hin _ (u_in_lay hk))
  have hst := (u_facts hfc hkC (u_lays hts hin hk) hi).1
  have hd := ck.2.2.2.1 kf hk
  have fin1 : ∀ (H1 : Heap) (j9 : Nat), H1[X.2.2.1 + a]? = some (cell.setSlot (X.1.2 ci kf) (shV X.2.2.1 v)) → H1.size = H.size → (∀ q9, q9 ≠ X.2.2.1 + a → H1[q9]? = H[q9]?) → W p l e R s m args below meth c H1 (locs ++ [⟨X.2.2.1 + a, j9⟩]) k n (MQ below (QR X res M') args s R.cells R.slots (qA X)) (F0 m (pc + 3) A (st.map (shV X.2.2.1))) := by
    intro H1 j9 e1 z oq
    refine nx X p l e s m args below meth c H1 _ A hC ⟨by rw [z, h0]; exact hR.1, ?_, fun b hb9 => by rw [h1]; exact hR.2.2 b (by rw [← h0]; exact hb9)⟩ (hS.put z oq (Nat.le_add_right _ _)) hl
    have hset := hP.set hD he (e := .inr (ci, (qfs X.2.2.1 M a ci).set kf (shV X.2.2.1 v))) (H1 := H1) ⟨r, ck.1, t_OB.to (V := updV (vp_V (qfs X.2.2.1 M a ci)) kf (shV X.2.2.1 v)) ⟨_, e1, q2, q3, t_set q4 hap hk (shV X.2.2.1 v)⟩ (fun j _ => vp_updV_set (by simp [qfs]; rw [← ck.2.1]; exact hk) (shV X.2.2.1 v) j)⟩ oq
    rw [ws_set (M1 := M1) h0 hlt ?_ ?_] at hset
    · exact hset
    · rw [qent_obj (by rw [h1]; exact hc) h13]
      congr 2
      apply List.ext_getElem?
      intro j
      rw [List.getElem?_set]
      by_cases hjn : j < qnf ci
      · rw [qfs_at hjn]
        by_cases hjk : kf = j
        · subst hjk
          rw [if_pos rfl, if_pos (by simp [qfs]; exact hjn), hv]
        · rw [if_neg hjk, qfs_at hjn, hj _ j (fun q => hjk q.symm)]
      · have hkj : kf ≠ j := fun e9 => hjn (by rw [← e9, ← ck.2.1]; exact hk)
        rw [if_neg hkj, List.getElem?_eq_none (by simp [qfs]; omega), List.getElem?_eq_none (by simp [qfs]; omega)]
    · intro b hb9
      exact qent_congr (by rw [h1]) (hb b hb9).1 (hb b hb9).2.1 (hb b hb9).2.2
  rcases hfn with hfn | ⟨hnm, hq9⟩
  · unfold u_lay at hlay
    rw [if_neg (by rw [hfin, hfn]; decide)] at hlay
    have h6 := u_store hfc hkC hkind hlay hi hd (hn X.2.2.1).1 (hn X.2.2.1).2
    refine W.putK hC.1 hC.2.1 (f := fd) ⟨hown, hts _ hlink, ⟨_, _, _, hi⟩, hst⟩ (by rw [q2]; exact h6) q1 q3 (by rw [hsl]; exact k2_hasslot (q4 kf hk)) rfl rfl h fun H1 e1 z oq => ?_
    rw [hsl] at e1 ⊢
    exact fin1 H1 _ e1 z oq
  · obtain ⟨q9, hq9, hq9c⟩ := hq9
    have : q9 = r := Option.some.inj (hq9.symm.trans ck.1)
    subst this
    cases hff : fin with
    | false =>
      unfold u_lay at hlay
      rw [if_neg (by rw [hfin, hff]; decide)] at hlay
      have h6 := u_store hfc hkC hkind hlay hi hd (hn X.2.2.1).1 (hn X.2.2.1).2
      refine W.putK hC.1 hC.2.1 (f := fd) ⟨hown, hts _ hlink, ⟨_, _, _, hi⟩, hst⟩ (by rw [q2]; exact h6) q1 q3 (by rw [hsl]; exact k2_hasslot (q4 kf hk)) rfl rfl h fun H1 e1 z oq => ?_
      rw [hsl] at e1 ⊢
      exact fin1 H1 _ e1 z oq
    | true =>
      unfold u_lay at hlay
      rw [if_pos (by rw [hfin, hff])] at hlay
      have hcf : m.cls = cf := by
        obtain ⟨_, _, c', _, _, _, -, -, hf', -, -, -, hown2, -⟩ := Cond.laysFinal_spec hlay
        have e1 : c' = cf := by have := hi.symm.trans hf'; simp at this; exact this.1.symm
        rw [ho, hq9c] at hown2
        rw [← e1]; exact Option.some.inj (hown.symm.trans hown2)
      have h6 := u_fits hfc hkC hkind (Or.inr hlay) hi hd (hn X.2.2.1).1 (hn X.2.2.1).2
      refine W.putFinK hC.1 hC.2.1 hown (hts _ hlink) hi hst hcf (by rw [← hnm]; exact hC.2.2.2.2.2.2.2.2.2.1) (by rw [q2]; exact h6) q1 q3 (by rw [hsl]; exact k2_hasslot (q4 kf hk)) rfl rfl h fun H1 e1 z oq => ?_
      rw [hsl] at e1 ⊢
      exact fin1 H1 _ e1 z oq
theorem qfv_same {B : Nat} {M M1 : MM} {a j : Nat} (h1 : M1.2.1 a j = M.2.1 a j) (h2 : M1.2.2 a j = M.2.2 a j) (h3 : M1.1.2.2 a j = M.1.2.2 a j) (t : FieldType) : qfv B M1 a j t = qfv B M a j t := by
  unfold qfv; rw [h1, h2, h3]
theorem b01 {v : Int32} (h : v &&& 1 = v) : v = 0 ∨ v = 1 := by
  rw [pk_and v (m := 1) 1 (by decide)] at h
  have h2 : v.toBitVec.toNat % 2 ^ 1 < 2 := Nat.mod_lt _ (by decide)
  generalize v.toBitVec.toNat % 2 ^ 1 = j at h h2
  have : j = 0 ∨ j = 1 := by omega
  rcases this with rfl | rfl
  · left; rw [← h]; rfl
  · right; rw [← h]; rfl
theorem fits_b {v : Int32} (h : v &&& 1 = v) : fits .boolean (.int v) = true := by
  rcases b01 h with rfl | rfl <;> decide
def okIn (mt : MT) (ci : Nat) : Prop := mt.1.name = "<init>" ∧ ∃ q : vw_C, classes[ci]? = some q ∧ q.1 = mt.1.cls
theorem e_putI {ci kf ix a : Nat} {v : Int32} {M1 : MM} {fin : Bool} (h : DC mt pc (.putfield ix) 3) (f : FL mt.1.cls ix ci kf fin) (hfn : fin = false ∨ okIn mt ci) (hq : FI ci kf) (ht : qty ci kf = .int) (hp : pI ci kf a v M = some M1) (nx : EV mt R res M' k n (pc + 3) ls st M1) : EV mt R res M' k n pc ls (.int v :: .ref a :: st) M := by
  unfold pI at hp
  split at hp
  · next hc =>
    cases hp
    exact e_putV (M1 := (M.1, upd2 M.2.1 a kf v, M.2.2)) h f hfn hc (fun B => by rw [ht]; exact ⟨rfl, rfl⟩) rfl rfl (fun b hb => ⟨upd2_ne hb, rfl, rfl⟩) (fun B j hj t => qfv_same (M := M) (M1 := (M.1, upd2 M.2.1 a kf v, M.2.2)) (upd2_nk hj) rfl rfl t) (fun B => by rw [hq]; simp [upd2_at]; rfl) nx
  · cases hp
theorem e_putZ {ci kf ix a : Nat} {v : Int32} {M1 : MM} {fin : Bool} (h : DC mt pc (.putfield ix) 3) (f : FL mt.1.cls ix ci kf fin) (hfn : fin = false ∨ okIn mt ci) (hq : FI ci kf) (ht : qty ci kf = .boolean) (hp : pZ ci kf a v M = some M1) (nx : EV mt R res M' k n (pc + 3) ls st M1) : EV mt R res M' k n pc ls (.int v :: .ref a :: st) M := by
  unfold pZ at hp
  split at hp
  · next hc =>
    cases hp
    exact e_putV (M1 := (M.1, upd2 M.2.1 a kf v, M.2.2)) h f hfn hc.1 (fun B => by rw [ht]; exact ⟨by show Value.int _ = Value.int _; rw [hc.2], fits_b hc.2⟩) rfl rfl (fun b hb => ⟨upd2_ne hb, rfl, rfl⟩) (fun B j hj t => qfv_same (M := M) (M1 := (M.1, upd2 M.2.1 a kf v, M.2.2)) (upd2_nk hj) rfl rfl t) (fun B => by rw [hq]; simp [upd2_at]; rfl) nx
  · cases hp
theorem e_putL {ci kf ix a : Nat} {v : Int64} {M1 : MM} {fin : Bool} (h : DC mt pc (.putfield ix) 3) (f : FL mt.1.cls ix ci kf fin) (hfn : fin = false ∨ okIn mt ci) (hq : FJ ci kf) (ht : qty ci kf = .long) (hp : pL ci kf a v M = some M1) (nx : EV mt R res M' k n (pc + 3) ls st M1) : EV mt R res M' k n pc ls (.long v :: .ref a :: st) M := by
  unfold pL at hp
  split at hp
  · next hc =>
    cases hp
    exact e_putV (M1 := (M.1, M.2.1, upd2 M.2.2 a kf v)) h f hfn hc (fun B => by rw [ht]; exact ⟨rfl, rfl⟩) rfl rfl (fun b hb => ⟨rfl, upd2_ne hb, rfl⟩) (fun B j hj t => qfv_same (M := M) (M1 := (M.1, M.2.1, upd2 M.2.2 a kf v)) rfl (upd2_nk hj) rfl t) (fun B => by rw [hq]; simp [upd2_at]; rfl) nx
  · cases hp
theorem e_putR {ci kf ix a r : Nat} {M1 : MM} {fin : Bool} (h : DC mt pc (.putfield ix) 3) (f : FL mt.1.cls ix ci kf fin) (hfn : fin = false ∨ okIn mt ci) (hq : FR ci kf) (ht : ∀ a : Nat, narrow (qty ci kf) (.ref a) = .ref a ∧ fits (qty ci kf) (.ref a) = true) (hp : pR ci kf a r M = some M1) (nx : EV mt R res M' k n (pc + 3) ls st M1) : EV mt R res M' k n pc ls (.ref r :: .ref a :: st) M := by
  unfold pR at hp
  split at hp
  · next hc =>
    cases hp
    exact e_putV (M1 := ((M.1.1, M.1.2.1, upd2 M.1.2.2 a kf (some r)), M.2)) h f hfn hc (fun B => ht _) rfl rfl (fun b hb => ⟨rfl, rfl, upd2_ne hb⟩) (fun B j hj t => qfv_same (M := M) (M1 := ((M.1.1, M.1.2.1, upd2 M.1.2.2 a kf (some r)), M.2)) rfl rfl (upd2_nk hj) t) (fun B => by rw [hq]; simp [upd2_at]; rfl) nx
  · cases hp
/-! arrays -/
theorem tys_int (X : QX) {kd : Nat} (h : kd = 100) : (tysOf X)[kd - 100]? = some (X.2.1 (kd - 100), .int) := by subst h; rfl
theorem aI_spec {kd a : Nat} {i v : Int32} (h : aI kd a i M = some v) : (M.1.2.1 a).1 = kd ∧ vp_in i (M.1.2.1 a).2 ∧ M.2.1 a i.toNatClampNeg = v := by
  unfold aI at h; split at h
  · next hc => exact ⟨hc.1, hc.2, Option.some.inj h⟩
  · cases h
theorem e_iald {a : Nat} {i v : Int32} (h : DC mt pc .iaload 1) (hg : aI 100 a i M = some v) (nx : EV mt R res M' k n (pc + 1) ls (.int v :: st) M) : EV mt R res M' k n pc ls (.int i :: .ref a :: st) M := by
  intro X p l e s m args below meth c H locs A hC hR hS hl
  obtain ⟨hc, hin, rfl⟩ := aI_spec hg
  have he := ws_get (x := X) (hR.lt (a := a) (by omega))
  rw [qent_int hc (by omega)] at he
  exact va_iald (D := X.1) (tys := tysOf X) hC.1 hC.2.1 hC.2.2.2.2.2.2.1.1 hR.2.1 a 0 he rfl hin h (nx X p l e s m args below meth c H locs A hC hR hS hl)
theorem e_bald {a : Nat} {i v : Int32} (h : DC mt pc .baload 1) (hg : aI 101 a i M = some v) (nx : EV mt R res M' k n (pc + 1) ls (.int v :: st) M) : EV mt R res M' k n pc ls (.int i :: .ref a :: st) M := by
  intro X p l e s m args below meth c H locs A hC hR hS hl
  obtain ⟨hc, hin, rfl⟩ := aI_spec hg
  have he := ws_get (x := X) (hR.lt (a := a) (by omega))
  rw [qent_int hc (by omega)] at he
  exact va_bald (D := X.1) (tys := tysOf X) hC.1 hC.2.1 hC.2.2.2.2.2.2.1.1 hR.2.1 a 1 he rfl hin h (nx X p l e s m args below meth c H locs A hC hR hS hl)
theorem e_zald {a : Nat} {i v : Int32} (h : DC mt pc .baload 1) (hg : aI 102 a i M = some v) (nx : EV mt R res M' k n (pc + 1) ls (.int v :: st) M) : EV mt R res M' k n pc ls (.int i :: .ref a :: st) M := by
  intro X p l e s m args below meth c H locs A hC hR hS hl
  obtain ⟨hc, hin, rfl⟩ := aI_spec hg
  have he := ws_get (x := X) (hR.lt (a := a) (by omega))
  rw [qent_int hc (by omega)] at he
  exact va_zald (D := X.1) (tys := tysOf X) hC.1 hC.2.1 hC.2.2.2.2.2.2.1.1 hR.2.1 a 2 he rfl hin h (nx X p l e s m args below meth c H locs A hC hR hS hl)
theorem e_lald {a : Nat} {i : Int32} {v : Int64} (h : DC mt pc .laload 1) (hg : aL a i M = some v) (nx : EV mt R res M' k n (pc + 1) ls (.long v :: st) M) : EV mt R res M' k n pc ls (.int i :: .ref a :: st) M := by
  intro X p l e s m args below meth c H locs A hC hR hS hl
  unfold aL at hg
  split at hg
  · next hc =>
    cases hg
    have he := ws_get (x := X) (hR.lt (a := a) (by omega))
    rw [qent_long hc.1] at he
    exact va_lald (D := X.1) (tys := tysOf X) hC.1 hC.2.1 hC.2.2.2.2.2.2.1.1 hR.2.1 a 3 he rfl hc.2 h (nx X p l e s m args below meth c H locs A hC hR hS hl)
  · cases hg
theorem aR_spec {kd a r : Nat} {i : Int32} (h : aR kd a i M = some r) : (M.1.2.1 a).1 = kd ∧ vp_in i (M.1.2.1 a).2 ∧ M.1.2.2 a i.toNatClampNeg = some r := by
  unfold aR at h; split at h
  · next hc => exact ⟨hc.1, hc.2, h⟩
  · cases h
theorem e_aald {kd a r : Nat} {i : Int32} (h : DC mt pc .aaload 1) (hk : 104 ≤ kd ∧ kd < 107) (hg : aR kd a i M = some r) (nx : EV mt R res M' k n (pc + 1) ls (.ref r :: st) M) : EV mt R res M' k n pc ls (.int i :: .ref a :: st) M := by
  intro X p l e s m args below meth c H locs A hC hR hS hl
  obtain ⟨hc, hin, hr⟩ := aR_spec hg
  have he := ws_get (x := X) (hR.lt (a := a) (by omega))
  rw [qent_ref hc (by omega)] at he
  have ht : ∃ ty : FieldType, (tysOf X)[kd - 100]? = some (X.2.1 (kd - 100), ty) ∧ ty.isReference = true := by
    have : kd = 104 ∨ kd = 105 ∨ kd = 106 := by omega
    rcases this with rfl | rfl | rfl
    · exact ⟨_, rfl, rfl⟩
    · exact ⟨_, rfl, rfl⟩
    · exact ⟨_, rfl, rfl⟩
  obtain ⟨ty, ht, hty⟩ := ht
  have hlt : i.toNatClampNeg < (M.1.2.1 a).2 := Nat.not_le.mp fun q => hin (Or.inr q)
  have hnx := nx X p l e s m args below meth c H locs A hC hR hS hl
  exact W.aald (v := va_rf (shO X.2.2.1 (M.1.2.2 a i.toNatClampNeg))) (ty := ty) hC.1 hC.2.1 (hR.2.1 a _ he) ((hC.2.2.2.2.2.2.1.1.2 (kd - 100) _ ht).1 (M.1.2.1 a).2 (fun j => va_rf (shO X.2.2.1 (M.1.2.2 a j)))) hty (fun q => by cases q) (by show ¬ (i < 0 ∨ (arrV _ _ _).slots.size ≤ _); rw [arrV_size]; exact hin) (by show (arrV _ _ _).slots[_]? = _; rw [arrV_read _ _ hlt]) rfl rfl h (by rw [hr]; exact hnx)
theorem e_alen {a : Nat} {v : Int32} (h : DC mt pc .arraylength 1) (hg : aN a M = some v) (nx : EV mt R res M' k n (pc + 1) ls (.int v :: st) M) : EV mt R res M' k n pc ls (.ref a :: st) M := by
  intro X p l e s m args below meth c H locs A hC hR hS hl
  unfold aN at hg
  split at hg
  · next hc =>
    have hv := Option.some.inj hg
    have he := ws_get (x := X) (hR.lt (a := a) (by omega))
    have ht : ∃ ty, (tysOf X)[(M.1.2.1 a).1 - 100]? = some (X.2.1 ((M.1.2.1 a).1 - 100), ty) := by
      generalize (M.1.2.1 a).1 = kd at hc
      have : kd = 100 ∨ kd = 101 ∨ kd = 102 ∨ kd = 103 ∨ kd = 104 ∨ kd = 105 ∨ kd = 106 := by omega
      rcases this with rfl | rfl | rfl | rfl | rfl | rfl | rfl <;> exact ⟨_, rfl⟩
    obtain ⟨ty, ht⟩ := ht
    by_cases h1 : (M.1.2.1 a).1 < 103
    · rw [qent_int rfl ⟨hc.1, h1⟩] at he
      exact va_alen (D := X.1) (tys := tysOf X) hC.1 hC.2.1 hC.2.2.2.2.2.2.1.1 hR.2.1 a _ he ht hv h (nx X p l e s m args below meth c H locs A hC hR hS hl)
    · by_cases h2 : (M.1.2.1 a).1 = 103
      · rw [qent_long h2] at he
        exact va_alen (D := X.1) (tys := tysOf X) hC.1 hC.2.1 hC.2.2.2.2.2.2.1.1 hR.2.1 a 3 he rfl hv h (nx X p l e s m args below meth c H locs A hC hR hS hl)
      · rw [qent_ref rfl (by omega)] at he
        exact va_alen (D := X.1) (tys := tysOf X) hC.1 hC.2.1 hC.2.2.2.2.2.2.1.1 hR.2.1 a _ he ht hv h (nx X p l e s m args below meth c H locs A hC hR hS hl)
  · cases hg
/-- an array's cell is written -/
theorem arr_put {X : QX} {M M1 : MM} {H H1 : Heap} {a : Nat} {cA : ClassId} {y : vp_A} (hR : Rp X M H) (hlt : a < M.1.1) (he : (wsOf X M)[a]? = some (X.2.2.1 + a, qent X M a)) (h0 : M1.1.1 = M.1.1) (h1 : M1.1.2.1 = M.1.2.1) (hb : ∀ b, b ≠ a → M1.2.1 b = M.2.1 b ∧ M1.2.2 b = M.2.2 b ∧ M1.1.2.2 b = M.1.2.2 b)
    (hE : qent X M1 a = .inl (cA, y)) (e1 : H1[X.2.2.1 + a]? = some (vp_cell cA y)) (z : H1.size = H.size) (oq : ∀ q9, q9 ≠ X.2.2.1 + a → H1[q9]? = H[q9]?) : Rp X M1 H1 := by
  refine ⟨by rw [z, h0]; exact hR.1, ?_, fun b hb9 => by rw [h1]; exact hR.2.2 b (by rw [← h0]; exact hb9)⟩
  have hset := hR.2.1.set (ws_D X M) he (e := .inl (cA, y)) (H1 := H1) e1 oq
  rw [ws_set (M1 := M1) h0 hlt hE (fun b hb9 => qent_congr (by rw [h1]) (hb b hb9).1 (hb b hb9).2.1 (hb b hb9).2.2)] at hset
  exact hset
theorem sI_spec {kd a : Nat} {i v : Int32} {M1 : MM} (h : sI kd a i v M = some M1) : (M.1.2.1 a).1 = kd ∧ vp_in i (M.1.2.1 a).2 ∧ M1 = (M.1, upd2 M.2.1 a i.toNatClampNeg (nrw kd v), M.2.2) := by
  unfold sI at h; split at h
  · next hc => exact ⟨hc.1, hc.2, (Option.some.inj h).symm⟩
  · cases h
theorem arr_int {X : QX} {M : MM} {H H1 : Heap} {a kd : Nat} {i w : Int32} (hR : Rp X M H) (hc : (M.1.2.1 a).1 = kd) (hk : 100 ≤ kd ∧ kd < 103)
    (e1 : H1[X.2.2.1 + a]? = some ((vp_cell (X.2.1 (kd - 100)) ((M.1.2.1 a).2, .inl (M.2.1 a))).setSlot i.toNatClampNeg (.int w))) (z : H1.size = H.size) (oq : ∀ q9, q9 ≠ X.2.2.1 + a → H1[q9]? = H[q9]?) : Rp X (M.1, upd2 M.2.1 a i.toNatClampNeg w, M.2.2) H1 := by
  have hlt := hR.lt (a := a) (by omega)
  refine arr_put (M1 := (M.1, upd2 M.2.1 a i.toNatClampNeg w, M.2.2)) hR hlt (ws_get hlt) rfl rfl (fun b hb => ⟨upd2_ne hb, rfl, rfl⟩) (qent_int hc hk) ?_ z oq
  rw [e1, vp_cell_i, vp_cell_i, arrV_store]
  congr 2
  funext q
  by_cases hq : q = i.toNatClampNeg
  · subst hq; simp [updV, upd2]
  · simp [updV, upd2, hq]
theorem e_iast {a : Nat} {i v : Int32} {M1 : MM} (h : DC mt pc .iastore 1) (hg : sI 100 a i v M = some M1) (nx : EV mt R res M' k n (pc + 1) ls st M1) : EV mt R res M' k n pc ls (.int v :: .int i :: .ref a :: st) M := by
  intro X p l e s m args below meth c H locs A hC hR hS hl
  obtain ⟨hc, hin, rfl⟩ := sI_spec hg
  have he := ws_get (x := X) (hR.lt (a := a) (by omega))
  rw [qent_int hc (by omega)] at he
  refine W.iast hC.1 hC.2.1 (hR.2.1 a _ he) ((hC.2.2.2.2.2.2.1.1.2 0 _ rfl).1 (M.1.2.1 a).2 (fun j => .int (M.2.1 a j))) (fun q => by cases q) (by show ¬ (i < 0 ∨ (arrV _ _ _).slots.size ≤ _); rw [arrV_size]; exact hin) rfl rfl h fun H1 e1 z oq => ?_
  exact nx X p l e s m args below meth c H1 _ A hC (arr_int hR hc (by omega) e1 z oq) (hS.put z oq (Nat.le_add_right _ _)) hl
theorem e_bast {a : Nat} {i v : Int32} {M1 : MM} (h : DC mt pc .bastore 1) (hg : sI 101 a i v M = some M1) (nx : EV mt R res M' k n (pc + 1) ls st M1) : EV mt R res M' k n pc ls (.int v :: .int i :: .ref a :: st) M := by
  intro X p l e s m args below meth c H locs A hC hR hS hl
  obtain ⟨hc, hin, rfl⟩ := sI_spec hg
  have he := ws_get (x := X) (hR.lt (a := a) (by omega))
  rw [qent_int hc (by omega)] at he
  refine W.bast hC.1 hC.2.1 (hR.2.1 a _ he) ((hC.2.2.2.2.2.2.1.1.2 1 _ rfl).1 (M.1.2.1 a).2 (fun j => .int (M.2.1 a j))) (fun q => by cases q) (by show ¬ (i < 0 ∨ (arrV _ _ _).slots.size ≤ _); rw [arrV_size]; exact hin) rfl rfl h fun H1 e1 z oq => ?_
  exact nx X p l e s m args below meth c H1 _ A hC (arr_int hR hc (by omega) e1 z oq) (hS.put z oq (Nat.le_add_right _ _)) hl
theorem e_zast {a : Nat} {i v : Int32} {M1 : MM} (h : DC mt pc .bastore 1) (hg : sI 102 a i v M = some M1) (nx : EV mt R res M' k n (pc + 1) ls st M1) : EV mt R res M' k n pc ls (.int v :: .int i :: .ref a :: st) M := by
  intro X p l e s m args below meth c H locs A hC hR hS hl
  obtain ⟨hc, hin, rfl⟩ := sI_spec hg
  have he := ws_get (x := X) (hR.lt (a := a) (by omega))
  rw [qent_int hc (by omega)] at he
  refine W.zast hC.1 hC.2.1 (hR.2.1 a _ he) ((hC.2.2.2.2.2.2.1.1.2 2 _ rfl).1 (M.1.2.1 a).2 (fun j => .int (M.2.1 a j))) (fun q => by cases q) (by show ¬ (i < 0 ∨ (arrV _ _ _).slots.size ≤ _); rw [arrV_size]; exact hin) rfl rfl h fun H1 e1 z oq => ?_
  exact nx X p l e s m args below meth c H1 _ A hC (arr_int hR hc (by omega) e1 z oq) (hS.put z oq (Nat.le_add_right _ _)) hl
theorem e_last {a : Nat} {i : Int32} {v : Int64} {M1 : MM} (h : DC mt pc .lastore 1) (hg : sL a i v M = some M1) (nx : EV mt R res M' k n (pc + 1) ls st M1) : EV mt R res M' k n pc ls (.long v :: .int i :: .ref a :: st) M := by
  intro X p l e s m args below meth c H locs A hC hR hS hl
  unfold sL at hg
  split at hg
  · next hc =>
    cases hg
    obtain ⟨hc, hin⟩ := hc
    have hlt := hR.lt (a := a) (by omega)
    have he := ws_get (x := X) hlt
    rw [qent_long hc] at he
    refine W.last hC.1 hC.2.1 (hR.2.1 a _ he) ((hC.2.2.2.2.2.2.1.1.2 3 _ rfl).1 (M.1.2.1 a).2 (fun j => .long (M.2.2 a j))) (fun q => by cases q) (by show ¬ (i < 0 ∨ (arrV _ _ _).slots.size ≤ _); rw [arrV_size]; exact hin) rfl rfl h fun H1 e1 z oq => ?_
    refine nx X p l e s m args below meth c H1 _ A hC ?_ (hS.put z oq (Nat.le_add_right _ _)) hl
    refine arr_put (M1 := (M.1, M.2.1, upd2 M.2.2 a i.toNatClampNeg v)) hR hlt (ws_get hlt) rfl rfl (fun b hb => ⟨rfl, upd2_ne hb, rfl⟩) (qent_long hc) ?_ z oq
    rw [e1, vp_cell_l, vp_cell_l, arrV_store]
    congr 2
    funext q
    by_cases hq : q = i.toNatClampNeg
    · subst hq; simp [updV, upd2]
    · simp [updV, upd2, hq]
  · cases hg
end MEMR
end
section
/-! ===== entry, calls, returns ===== -/
def rm (d mc ms : Nat) : Room := { frames := d, cells := mc, slots := ms, locals := 64 * d }
theorem gT_good : ∀ w ∈ gT, (w.onTables && w.keeps) = true ∨ ∃ ty, w = .arrayClass ty := fun w h => good_of_word (List.mem_filter.mp h).2
theorem wsM_good {mt : MT} (h : Cond.code mt.1 mt.2.1 mt.2.2.1 mt.2.2.2 ∈ gT) : GoodIn gT (wsM mt) := by
  intro w hw
  rcases List.mem_cons.mp hw with rfl | hw
  · exact ⟨h, gT_good _ h⟩
  · exact ⟨hw, gT_good _ hw⟩
theorem PreM_blind (x : QX) (args : List Value) (M : MM) : FrameBlind (PreM x args M) := by
  intro a U g mk h
  obtain ⟨h1, h2, h3, h4⟩ := h
  exact ⟨h1, h2, KC.same (s := U) (U := U.calling g mk a) rfl h3, SC.moved (s := U) (U := U.calling g mk a) (Vm.Alike.refl U.vm) h4⟩
theorem CT.of {mt : MT} {R : Room} {args : List Value} {M : MM} {res : Option Value} {M' : MM} {ls : Lv} (hy : plainName mt.1.cls = true) (ha : ∀ B : Nat, (lg_sl (args.map (shV B))).length ≤ mt.2.2.1) (hls : lv0 args mt.2.2.1 = ls)
    (h : EV mt R res M' 0 0 0 ls [] M) : CT mt R args M res M' := by
  intro l x
  refine Met.ofW (cc := mt.2.1) (maxL := mt.2.2.1) (ret := mt.2.2.2) hy rfl ?_
  intro p e s m args0 below meth c s₁ B hml hv
  obtain ⟨rfl, hR, hK, hSC⟩ := hv
  have hts := atoms_spec (ws := wsM mt) B.pre
  rw [lg_entry_eq]
  refine h x p l e s m _ below meth c s.heap [] _ ⟨B.exec, B.bytes, B.returns, hml, findClass_of_methodNamed B.named, fun w hw => hts w (List.mem_cons_of_mem _ hw), hK, hSC, B.notSynchronized, (name_of_methodNamed B.named B.method).1, by rw [hR.1]; exact Nat.le_add_right _ _⟩ hR va_S.rf ?_
  have h1 := lv_entry (args.map (shV x.2.2.1)) (ha x.2.2.1)
  subst hls
  unfold lvo lv0
  rw [prs_app, prs_none, List.append_nil, prs_args]
  exact h1
/-- what the tables say of a method -/
def MI (mt : MT) (np : Nat) : Prop := Cond.code mt.1 mt.2.1 mt.2.2.1 mt.2.2.2 ∈ gT ∧ Cond.initialized mt.1.cls ∈ gT ∧ (mt.1.cls ≠ "java/lang/invoke/MethodHandle" ∧ mt.1.cls ≠ "java/lang/invoke/VarHandle" ∧ (parseMethodDescriptor mt.1.desc).map (fun d => d.parameters.length) = some np)
def MV (mt : MT) (np : Nat) : Prop := MI mt np ∧ Cond.instanceMethod mt.1 ∈ gT ∧ Cond.selects mt.1.cls mt.1 mt.1 ∈ gT
def MS (mt : MT) (np : Nat) : Prop := MI mt np ∧ Cond.static mt.1 ∈ gT
def MN (mt : MT) (np : Nat) : Prop := MI mt np ∧ Cond.instanceMethod mt.1 ∈ gT ∧ mt.1.name = "<init>" ∧ mt.2.2.2 = none
section CALLS
variable {mt : MT} {R : Room} {res : Option Value} {M' : MM} {k n pc : Nat} {ls : Lv} {st st0 : List Value} {M : MM}
theorem run_go {X : QX} {p : Program} {l : Launch} {e : Env} {s : State} {m : MethodId} {args : Array Value} {below : List Frame} {meth : Method} {c : Code} {H : Heap} {locs : List Loc} {A : Array Slot} {mc ms : Nat} {res1 : Option Value} {M1 : MM} {a : Array Value}
    (hr : va_Run p l e R s m args below meth c H locs k n mc ms (F0 m pc A (st0.map (shV X.2.2.1))) (st.map (shV X.2.2.1)) (QR X res1 M1 a) (qA X))
    (hC : CX X mt p s m args meth c) (hS : va_S (qA X) s.heap H locs) (hl : lvo X.2.2.1 A mt.2.2.1 ls)
    (nx : EV mt R res M' (k + mc) (n + ms) (pc + 3) ls (res1.toList ++ st) M1) :
    W p l e R s m args below meth c H locs k n (MQ below (QR X res M') args s R.cells R.slots (qA X)) (F0 m pc A (st0.map (shV X.2.2.1))) := by
  intro T hT Xs
  obtain ⟨v, st₀, t, T', L, h0, X', hL, e1, e2, ⟨hv, hR1, hz, hk⟩, stp⟩ := hr T hT Xs
  have hv2 : v = res1.map (shV X.2.2.1) := Outcome.returned.inj hv
  subst hv2
  rw [h0] at hz hk
  obtain ⟨t2, a1, b1⟩ := nx X p l e s m args below meth c T'.heap (locs ++ L) A hC (by rw [e1]; exact hR1)
    ⟨Nat.le_trans hS.1 (by rw [e1]; exact hz), fun q h1 h2 => by rw [e1, hk q (Nat.lt_of_lt_of_le h1 hS.1) h2]; exact hS.2.1 q h1 h2, fun q hq => by
      rcases List.mem_append.mp hq with h | h
      · exact hS.2.2 q h
      · exact hL q h⟩ hl T' rfl X'
  refine ⟨t2, stp t2 ?_, b1⟩
  have hst : (res1.map (shV X.2.2.1)).toList ++ st.map (shV X.2.2.1) = (res1.toList ++ st).map (shV X.2.2.1) := by cases res1 <;> simp
  rw [hst]
  exact a1
theorem pre_at {X : QX} {p : Program} {s : State} {m : MethodId} {args : Array Value} {meth : Method} {c : Code} {H : Heap} {locs : List Loc} {as : List Value} (hC : CX X mt p s m args meth c) (hR : Rp X M H) (hS : va_S (qA X) s.heap H locs) : ∀ U : State, U.heap = H → s.WarmedH U.vm → PreM X as M (as.map (shV X.2.2.1)).toArray U := by
  intro U hU hW
  refine ⟨rfl, by rw [hU]; exact hR, KC.warm hW hC.2.2.2.2.2.2.1, ?_⟩
  rw [hU]
  exact SC.moved hW.alike (SC.kept hC.2.2.2.2.2.2.2.1 hS.2.1)
theorem cat_sum (B : Nat) (st : List Value) : ((st.map (shV B)).map fun v => v.category) = st.map fun v => v.category := by
  rw [List.map_map]; apply List.map_congr_left; intro v _; exact shV_cat B v
theorem e_callV {mt1 : MT} {R1 : Room} {As : List Value} {b ci ix np : Nat} {res1 : Option Value} {M1 : MM} (h : DC mt pc (.invokevirtual ix) 3) (hlk : Cond.methodLink mt.1.cls ix mt1.1 ∈ gT) (hm : MV mt1 np) (hc : CT mt1 R1 (.ref b :: As) M res1 M1)
    (hst : As.reverse ++ .ref b :: st = st0) (hnp : As.length = np) (hb : (M.1.2.1 b).1 = ci) (hci : (classes[ci]?).map (fun q => q.1) = some mt1.1.cls) (hcat : (st.map fun v => v.category).sum ≤ 8) (hf : R1.frames + 1 ≤ R.frames) (hlo : 8 + (mt1.2.2.1 + 11) + R1.locals ≤ R.locals) (hk : k + R1.cells ≤ R.cells) (hn : n + R1.slots ≤ R.slots)
    (nx : EV mt R res M' (k + R1.cells) (n + R1.slots) (pc + 3) ls (res1.toList ++ st) M1) : EV mt R res M' k n pc ls st0 M := by
  intro X p l e s m args below meth c H locs A hC hR hS hl
  subst hst
  have hts := hC.2.2.2.2.2.1
  obtain ⟨⟨hcode, hini, hd⟩, hin, hse⟩ := hm
  cases hq : classes[ci]? with
  | none => rw [hq] at hci; cases hci
  | some q =>
    rw [hq] at hci
    have hq1 : q.1 = mt1.1.cls := Option.some.inj hci
    have h13 : ci < 13 := (List.getElem?_eq_some_iff.mp hq).1
    have he := ws_get (x := X) (hR.lt (a := b) (by omega))
    rw [qent_obj hb h13] at he
    have hrv := va_recv hC.2.2.2.2.2.2.1.1 hR.2.1 hq he
    rw [hq1] at hrv
    have hsh : ((As.reverse ++ Value.ref b :: st).map (shV X.2.2.1)) = (As.map (shV X.2.2.1)).reverse ++ Value.ref (X.2.2.1 + b) :: st.map (shV X.2.2.1) := by
      rw [List.map_append, List.map_reverse]; rfl
    exact run_go (st := st) (st0 := As.reverse ++ Value.ref b :: st) (
      va_runV (Ts := gT) (own := mt.1.cls) (C := mt1.1.cls) (nL := mt.2.2.1) (n := np) (b := X.2.2.1 + b) (As := As.map (shV X.2.2.1)) (cc := mt.2.1) ⟨hC.1, hC.2.1, hC.2.2.2.1, hC.2.2.2.2.1, hts⟩ (hc l X)
      ⟨callB_of np hts (wsM_good hcode) rfl rfl rfl (hts _ hini) (hts _ hlk) hd ⟨hf, hlo⟩, hts _ hin, hts _ hse⟩
      ⟨PreM_blind _ _ _, hrv, pre_at (as := .ref b :: As) hC hR hS⟩ rfl (by rw [List.length_map]; exact hnp) hl.1 hsh (by show 2 * 0 + _ ≤ 8; rw [cat_sum]; omega) h ⟨hk, hn⟩) hC hS hl nx
theorem e_callS {mt1 : MT} {R1 : Room} {As : List Value} {ix np : Nat} {res1 : Option Value} {M1 : MM} (h : DC mt pc (.invokestatic ix) 3) (hlk : Cond.methodLink mt.1.cls ix mt1.1 ∈ gT) (hm : MS mt1 np) (hc : CT mt1 R1 As M res1 M1)
    (hst : As.reverse ++ st = st0) (hnp : As.length = np) (hcat : (st.map fun v => v.category).sum ≤ 8) (hf : R1.frames + 1 ≤ R.frames) (hlo : 8 + (mt1.2.2.1 + 11) + R1.locals ≤ R.locals) (hk : k + R1.cells ≤ R.cells) (hn : n + R1.slots ≤ R.slots)
    (nx : EV mt R res M' (k + R1.cells) (n + R1.slots) (pc + 3) ls (res1.toList ++ st) M1) : EV mt R res M' k n pc ls st0 M := by
  intro X p l e s m args below meth c H locs A hC hR hS hl
  subst hst
  have hts := hC.2.2.2.2.2.1
  obtain ⟨⟨hcode, hini, hd⟩, hsta⟩ := hm
  have hsh : ((As.reverse ++ st).map (shV X.2.2.1)) = (As.map (shV X.2.2.1)).reverse ++ st.map (shV X.2.2.1) := by
    rw [List.map_append, List.map_reverse]
  exact run_go (st := st) (st0 := As.reverse ++ st) (
    va_runS (Ts := gT) (own := mt.1.cls) (nL := mt.2.2.1) (n := np) (As := As.map (shV X.2.2.1)) (cc := mt.2.1) ⟨hC.1, hC.2.1, hC.2.2.2.1, hC.2.2.2.2.1, hts⟩ (hc l X)
    ⟨callB_of np hts (wsM_good hcode) rfl rfl rfl (hts _ hini) (hts _ hlk) hd ⟨hf, hlo⟩, hts _ hsta⟩
    ⟨PreM_blind _ _ _, pre_at (as := As) hC hR hS⟩ rfl (by rw [List.length_map]; exact hnp) hl.1 hsh (by show 2 * 0 + _ ≤ 8; rw [cat_sum]; omega) h ⟨hk, hn⟩) hC hS hl nx
theorem e_callI {mt1 : MT} {R1 : Room} {As : List Value} {b ix np : Nat} {M1 : MM} (h : DC mt pc (.invokespecial ix) 3) (hlk : Cond.methodLink mt.1.cls ix mt1.1 ∈ gT) (hm : MN mt1 np) (hc : CT mt1 R1 (.ref b :: As) M none M1)
    (hst : As.reverse ++ .ref b :: st = st0) (hnp : As.length = np) (hcat : (st.map fun v => v.category).sum ≤ 8) (hf : R1.frames + 1 ≤ R.frames) (hlo : 8 + (mt1.2.2.1 + 11) + R1.locals ≤ R.locals) (hk : k + R1.cells ≤ R.cells) (hn : n + R1.slots ≤ R.slots)
    (nx : EV mt R res M' (k + R1.cells) (n + R1.slots) (pc + 3) ls st M1) : EV mt R res M' k n pc ls st0 M := by
  intro X p l e s m args below meth c H locs A hC hR hS hl
  subst hst
  have hts := hC.2.2.2.2.2.1
  obtain ⟨⟨hcode, hini, hd⟩, hin, hnm, hret⟩ := hm
  have hsh : ((As.reverse ++ Value.ref b :: st).map (shV X.2.2.1)) = (As.map (shV X.2.2.1)).reverse ++ Value.ref (X.2.2.1 + b) :: st.map (shV X.2.2.1) := by
    rw [List.map_append, List.map_reverse]; rfl
  exact run_go (st := st) (st0 := As.reverse ++ Value.ref b :: st) (res1 := none) (
    va_runI (Ts := gT) (own := mt.1.cls) (nL := mt.2.2.1) (n := np) (b := X.2.2.1 + b) (As := As.map (shV X.2.2.1)) (cc := mt.2.1) ⟨hC.1, hC.2.1, hC.2.2.2.1, hC.2.2.2.2.1, hts⟩ (hc l X)
    ⟨callB_of np hts (by have := wsM_good hcode; exact this) (by unfold wsM; rw [hret]) rfl rfl (hts _ hini) (hts _ hlk) hd ⟨hf, hlo⟩, hnm, hts _ hin⟩
    ⟨PreM_blind _ _ _, pre_at (as := .ref b :: As) hC hR hS⟩ rfl (by rw [List.length_map]; exact hnp) hl.1 hsh (by show 2 * 0 + _ ≤ 8; rw [cat_sum]; omega) h ⟨hk, hn⟩) hC hS hl nx
theorem e_callIN {mt1 : MT} {R1 : Room} {As : List Value} {b ix np : Nat} {M1 : MM} {host : String} (h : DC mt pc (.invokespecial ix) 3) (hlk : Cond.methodLinkNest mt.1.cls ix mt1.1 host ∈ nestL) (hm : MN mt1 np) (hc : CT mt1 R1 (.ref b :: As) M none M1)
    (hst : As.reverse ++ .ref b :: st = st0) (hnp : As.length = np) (hcat : (st.map fun v => v.category).sum ≤ 8) (hf : R1.frames + 1 ≤ R.frames) (hlo : 8 + (mt1.2.2.1 + 11) + R1.locals ≤ R.locals) (hk : k + R1.cells ≤ R.cells) (hn : n + R1.slots ≤ R.slots)
    (nx : EV mt R res M' (k + R1.cells) (n + R1.slots) (pc + 3) ls st M1) : EV mt R res M' k n pc ls st0 M := by
  intro X p l e s m args below meth c H locs A hC hR hS hl
  subst hst
  have hts := hC.2.2.2.2.2.1
  obtain ⟨⟨hcode, hini, hd⟩, hin, hnm, hret⟩ := hm
  have hsh : ((As.reverse ++ Value.ref b :: st).map (shV X.2.2.1)) = (As.map (shV X.2.2.1)).reverse ++ Value.ref (X.2.2.1 + b) :: st.map (shV X.2.2.1) := by
    rw [List.map_append, List.map_reverse]; rfl
  exact run_go (st := st) (st0 := As.reverse ++ Value.ref b :: st) (res1 := none) (
    va_runIN (Ts := gT) (own := mt.1.cls) (host := host) (nL := mt.2.2.1) (n := np) (b := X.2.2.1 + b) (As := As.map (shV X.2.2.1)) (cc := mt.2.1) ⟨hC.1, hC.2.1, hC.2.2.2.1, hC.2.2.2.2.1, hts⟩ (hc l X)
    ⟨va_cnB np hts (by have := wsM_good hcode; exact this) (by unfold wsM; rw [hret]) rfl rfl (hC.2.2.2.2.2.2.1.2.1 _ hlk) (hts _ hini) hd ⟨hf, hlo⟩, hnm, hts _ hin⟩
    ⟨PreM_blind _ _ _, pre_at (as := .ref b :: As) hC hR hS⟩ rfl (by rw [List.length_map]; exact hnp) hl.1 hsh (by show 2 * 0 + _ ≤ 8; rw [cat_sum]; omega) h ⟨hk, hn⟩) hC hS hl nx
/-- Object's own constructor -/
theorem e_objInit {b ix : Nat} (h : DC mt pc (.invokespecial ix) 3) (hlk : Cond.methodLink mt.1.cls ix objectInit ∈ gT) (hin : Cond.instanceMethod objectInit ∈ gT) (hcode : Cond.code objectInit ⟨#[0xb1]⟩ 1 none ∈ gT) (hcat : (st.map fun v => v.category).sum ≤ 8) (hf : 1 ≤ R.frames) (hlo : 20 ≤ R.locals)
    (nx : EV mt R res M' k n (pc + 3) ls st M) : EV mt R res M' k n pc ls (.ref b :: st) M := by
  intro X p l e s m args below meth c H locs A hC hR hS hl
  have hts := hC.2.2.2.2.2.1
  refine W.objInit hC.1 hC.2.1 hC.2.2.2.2.1 (hts _ hlk) (hts _ hin) (hts _ hcode) rfl (hl.1.trans hC.2.2.2.1.symm) (rest := st.map (shV X.2.2.1)) rfl h hf ?_ (nx X p l e s m args below meth c H locs A hC hR hS hl)
  show 2 * 0 + _ + 12 ≤ _
  rw [cat_sum]
  omega
theorem e_iret {v : Int32} (h : DC mt pc .ireturn 1) (hr : mt.2.2.2 = some .int) (hk : k ≤ R.cells) (hn : n ≤ R.slots) : EV mt R (some (.int v)) M k n pc ls [.int v] M := by
  intro X p l e s m args below meth c H locs A hC hR hS hl
  refine W.widen hk hn ?_
  exact W.iret hC.1 hC.2.1 (by rw [hC.2.2.1]; exact hr) (fun t ht hW => ⟨rfl, by rw [ht]; exact hR, hS.F ht⟩) hS.2.2 h hC.2.2.2.2.2.2.2.2.1
theorem e_zret {v : Int32} {ty : FieldType} (h : DC mt pc .ireturn 1) (hr : mt.2.2.2 = some ty) (hnr : narrow ty (.int v) = .int v) (hk : k ≤ R.cells) (hn : n ≤ R.slots) : EV mt R (some (.int v)) M k n pc ls [.int v] M := by
  intro X p l e s m args below meth c H locs A hC hR hS hl
  refine W.widen hk hn ?_
  exact W.zret hC.1 hC.2.1 (by rw [hC.2.2.1]; exact hr) hnr (fun t ht hW => ⟨rfl, by rw [ht]; exact hR, hS.F ht⟩) hS.2.2 h hC.2.2.2.2.2.2.2.2.1
theorem e_lret {v : Int64} (h : DC mt pc .lreturn 1) (hr : mt.2.2.2 = some .long) (hk : k ≤ R.cells) (hn : n ≤ R.slots) : EV mt R (some (.long v)) M k n pc ls [.long v] M := by
  intro X p l e s m args below meth c H locs A hC hR hS hl
  refine W.widen hk hn ?_
  exact W.lret hC.1 hC.2.1 (by rw [hC.2.2.1]; exact hr) (fun t ht hW => ⟨rfl, by rw [ht]; exact hR, hS.F ht⟩) hS.2.2 h hC.2.2.2.2.2.2.2.2.1
theorem e_vret (h : DC mt pc .return_ 1) (hr : mt.2.2.2 = none) (hk : k ≤ R.cells) (hn : n ≤ R.slots) : EV mt R none M k n pc ls [] M := by
  intro X p l e s m args below meth c H locs A hC hR hS hl
  refine W.widen hk hn ?_
  exact W.vret hC.1 hC.2.1 (by rw [hC.2.2.1]; exact hr) (fun t ht hW => ⟨rfl, by rw [ht]; exact hR, hS.F ht⟩) hS.2.2 h hC.2.2.2.2.2.2.2.2.1
theorem e_aret {r : Option Nat} {ty : FieldType} (h : DC mt pc .areturn 1) (hr : mt.2.2.2 = some ty) (hrt : (∃ n, ty = .object n) ∨ ∃ t, ty = .array t) (hk : k ≤ R.cells) (hn : n ≤ R.slots) : EV mt R (some (vr r)) M k n pc ls [vr r] M := by
  intro X p l e s m args below meth c H locs A hC hR hS hl
  refine W.widen hk hn ?_
  exact W.aret (v := shV X.2.2.1 (vr r)) hC.1 hC.2.1 (by rw [hC.2.2.1]; exact hr) hrt (by cases r; exact Or.inl rfl; exact Or.inr ⟨_, rfl⟩) (fun t ht hW => ⟨rfl, by rw [ht]; exact hR, hS.F ht⟩) hS.2.2 h hC.2.2.2.2.2.2.2.2.1
end CALLS
end
section
/-! ===== cells that are made; copies of arrays ===== -/
/-- one cell more: an object of the class kd, or an array of kind kd with len places -/
def nwC (kd len : Nat) (M : MM) : MM := ((M.1.1 + 1, fun b => if b = M.1.1 then (kd, len) else M.1.2.1 b, fun b => if b = M.1.1 then (fun _ => none) else M.1.2.2 b), fun b => if b = M.1.1 then (fun _ => 0) else M.2.1 b, fun b => if b = M.1.1 then (fun _ => 0) else M.2.2 b)
theorem nwC_old {x : QX} {kd len : Nat} {M : MM} {a : Nat} (h : a ≠ M.1.1) : qent x (nwC kd len M) a = qent x M a :=
  qent_congr (by simp [nwC, h]) (by simp [nwC, h]) (by simp [nwC, h]) (by simp [nwC, h])
theorem ws_nw (x : QX) (kd len : Nat) (M : MM) : wsOf x (nwC kd len M) = wsOf x M ++ [(x.2.2.1 + M.1.1, qent x (nwC kd len M) M.1.1)] := by
  have h1 : (nwC kd len M).1.1 = M.1.1 + 1 := rfl
  unfold wsOf
  rw [h1, List.range_succ, List.map_append]
  congr 1
  apply List.map_congr_left
  intro a ha
  rw [nwC_old (Nat.ne_of_lt (List.mem_range.mp ha))]
theorem Rp.nw {x : QX} {kd len : Nat} {M : MM} {H H1 : Heap} (hR : Rp x M H) (z1 : H1.size = H.size + 1) (o1 : ∀ q, q < H.size → H1[q]? = H[q]?) (he : va_at x.1 classes (x.2.2.1 + M.1.1, qent x (nwC kd len M) M.1.1) H1) : Rp x (nwC kd len M) H1 := by
  refine ⟨by rw [z1, hR.1]; rfl, ?_, fun a ha => ?_⟩
  · rw [ws_nw]
    exact (hR.2.1.kept (fun j q hq => o1 q.1 ((hR.2.1 j q hq).lt))).app (fun j q hq => by
      have hz : j < 1 := (List.getElem?_eq_some_iff.mp hq).1
      rw [show j = 0 by omega] at hq
      cases hq
      exact he)
  · have h1 : M.1.1 + 1 ≤ a := ha
    have h2 : (nwC kd len M).1.2.1 a = M.1.2.1 a := by simp [nwC, show a ≠ M.1.1 by omega]
    rw [h2]
    exact hR.2.2 a (by omega)
theorem va_S.nw {A : Nat → Prop} {H0 H H1 : Heap} {locs : List Loc} (hS : va_S A H0 H locs) (z1 : H.size ≤ H1.size) (o1 : ∀ q, q < H.size → H1[q]? = H[q]?) : va_S A H0 H1 locs :=
  ⟨Nat.le_trans hS.1 z1, fun q h1 h2 => (o1 q (Nat.lt_of_lt_of_le h1 hS.1)).trans (hS.2.1 q h1 h2), hS.2.2⟩
section ALLOC
variable {mt : MT} {R : Room} {res : Option Value} {M' : MM} {k n pc : Nat} {ls : Lv} {st : List Value} {M : MM}
theorem e_new {ci ix : Nat} {q : vw_C} (h : DC mt pc (.new ix) 3) (ck : CK ci q) (hl9 : Cond.classLink mt.1.cls ix q.1 ∈ gT) (hi9 : Cond.instantiable q.1 q.2.2 ∈ gT) (hn9 : Cond.initialized q.1 ∈ gT) (hdf : ∀ B : Nat, ∀ M9 : MM, ∀ a, (∀ j, M9.2.1 a j = 0) → (∀ j, M9.2.2 a j = 0) → (∀ j, M9.1.2.2 a j = none) → ∀ j, j < qnf ci → defaultValue (qty ci j) = qfv B M9 a j (qty ci j))
    (hk : k + 1 ≤ R.cells) (hn : n + q.2.2 ≤ R.slots) (nx : EV mt R res M' (k + 1) (n + q.2.2) (pc + 3) ls (.ref M.1.1 :: st) (nwC ci 0 M)) : EV mt R res M' k n pc ls st M := by
  intro X p l e s m args below meth c H locs A hC hR hS hl
  have hts := hC.2.2.2.2.2.1
  have hK := hC.2.2.2.2.2.2.1.1
  have hKn := hK.1 ci _ ck.1
  refine W.newcK hC.1 hC.2.1 hC.2.2.2.2.1 (hts _ hl9) (hts _ hi9) (hts _ hn9) rfl h hk hn hKn.2.1 (h := X.2.2.1 + M.1.1) hR.1 fun H1 kC hkC e1 z1 o1 => ?_
  rw [← hR.1] at z1 o1
  refine nx X p l e s m args below meth c H1 locs A hC (hR.nw z1 o1 ?_) (hS.nw (by omega) o1) hl
  have h9 : (nwC ci 0 M).1.2.1 M.1.1 = (ci, 0) := by simp [nwC]
  rw [qent_obj (ci := ci) (by rw [h9]) ck.lt]
  refine ⟨q, ck.1, (u_born (qty ci) hts ck.2.2.1 hKn hkC e1 ck.2.2.2.1).to fun j hj => ?_⟩
  have hj2 : j < qnf ci := by rw [← ck.2.1]; exact hj
  rw [hdf X.2.2.1 (nwC ci 0 M) M.1.1 (by intro j; simp [nwC]) (by intro j; simp [nwC]) (by intro j; simp [nwC]) j hj2]
  show _ = vp_V _ j
  unfold vp_V
  rw [List.getD_eq_getElem?_getD, qfs_at hj2]
  rfl
theorem e_newa {kd len : Nat} {v : Int32} {at9 : ArrayType} {ty : FieldType} (h : DC mt pc (.newarray at9) 2) (hty : newarray.typeOf at9 = ty) (ha : Cond.arrayClass ty ∈ gT) (hkd : (kd = 100 ∧ ty = .int) ∨ (kd = 101 ∧ ty = .byte) ∨ (kd = 102 ∧ ty = .boolean) ∨ (kd = 103 ∧ ty = .long)) (hv : ¬ v < 0) (hlen : v.toNatClampNeg = len) (hsm : len ≤ 1000000)
    (hk : k + 1 ≤ R.cells) (hn : n + len ≤ R.slots) (nx : EV mt R res M' (k + 1) (n + len) (pc + 2) ls (.ref M.1.1 :: st) (nwC kd len M)) : EV mt R res M' k n pc ls (.int v :: st) M := by
  intro X p l e s m args below meth c H locs A hC hR hS hl
  have hts := hC.2.2.2.2.2.1
  have hK := hC.2.2.2.2.2.2.1.1
  subst hty
  refine va_newaK hC.1 hC.2.1 (hts _ ha) rfl h rfl hv hlen ?_ hk hn (h := X.2.2.1 + M.1.1) hR.1 fun H1 cA e1 z1 o1 hAr hNm => ?_
  · cases at9 <;> simp [newarray.typeOf, componentBytes] <;> omega
  rw [← hR.1] at z1 o1
  refine nx X p l e s m args below meth c H1 locs A hC (hR.nw z1 o1 ?_) (hS.nw (by omega) o1) hl
  have h9 : (nwC kd len M).1.2.1 M.1.1 = (kd, len) := by simp [nwC]
  rcases hkd with ⟨rfl, h8⟩ | ⟨rfl, h8⟩ | ⟨rfl, h8⟩ | ⟨rfl, h8⟩
  · rw [qent_int (kd := 100) (by rw [h9]) (by omega), h9]
    have hc : cA = X.2.1 0 := Option.some.inj (hNm.symm.trans (by rw [h8]; exact (hK.2 0 _ rfl).2))
    rw [h8] at e1
    show H1[_]? = some (vp_cell _ _)
    rw [e1, vp_cell_i, hc]
    congr 2; funext j; simp [nwC, defaultValue]
  · rw [qent_int (kd := 101) (by rw [h9]) (by omega), h9]
    have hc : cA = X.2.1 1 := Option.some.inj (hNm.symm.trans (by rw [h8]; exact (hK.2 1 _ rfl).2))
    rw [h8] at e1
    show H1[_]? = some (vp_cell _ _)
    rw [e1, vp_cell_i, hc]
    congr 2; funext j; simp [nwC, defaultValue]
  · rw [qent_int (kd := 102) (by rw [h9]) (by omega), h9]
    have hc : cA = X.2.1 2 := Option.some.inj (hNm.symm.trans (by rw [h8]; exact (hK.2 2 _ rfl).2))
    rw [h8] at e1
    show H1[_]? = some (vp_cell _ _)
    rw [e1, vp_cell_i, hc]
    congr 2; funext j; simp [nwC, defaultValue]
  · rw [qent_long (by rw [h9]), h9]
    have hc : cA = X.2.1 3 := Option.some.inj (hNm.symm.trans (by rw [h8]; exact (hK.2 3 _ rfl).2))
    rw [h8] at e1
    show H1[_]? = some (vp_cell _ _)
    rw [e1, vp_cell_l, hc]
    congr 2; funext j; simp [nwC, defaultValue]
theorem e_newq {kd len ix : Nat} {v : Int32} {C : String} (h : DC mt pc (.anewarray ix) 3) (hl9 : Cond.classLink mt.1.cls ix C ∈ gT) (ho9 : Cond.arrayOver (.object C) ∈ gT) (hkd : (kd = 104 ∧ C = "QuarterBoards$Shape") ∨ (kd = 105 ∧ C = "QuarterBoards$Form")) (hv : ¬ v < 0) (hlen : v.toNatClampNeg = len) (hsm : len ≤ 1000000)
    (hk : k + 1 ≤ R.cells) (hn : n + len ≤ R.slots) (nx : EV mt R res M' (k + 1) (n + len) (pc + 3) ls (.ref M.1.1 :: st) (nwC kd len M)) : EV mt R res M' k n pc ls (.int v :: st) M := by
  intro X p l e s m args below meth c H locs A hC hR hS hl
  have hts := hC.2.2.2.2.2.1
  have hK := hC.2.2.2.2.2.2.1.1
  subst hlen
  refine W.anew hC.1 hC.2.1 hC.2.2.2.2.1 (hts _ hl9) (hts _ ho9) rfl h rfl hv (by omega) hk hn fun cA kA comp f1 f2 f3 f4 => ?_
  generalize hH1 : H.push ({ cls := cA, slots := Array.replicate v.toNatClampNeg .null, vm := .none } : Cell) = H1
  have z1 : H1.size = H.size + 1 := by rw [← hH1, Array.size_push]
  have e1 : H1[H.size]? = some (arrV cA v.toNatClampNeg (fun _ => .null)) := by rw [← hH1, Array.getElem?_push_size, ← arrV_new]
  have o1 : ∀ q : Nat, q < H.size → H1[q]? = H[q]? := fun q hq => by rw [← hH1, Array.getElem?_push, if_neg (Nat.ne_of_lt hq)]
  have hnx := nx X p l e s m args below meth c H1 locs A hC (hR.nw z1 o1 ?_) (hS.nw (by omega) o1) hl
  · rw [hR.1]; exact hnx
  have h9 : (nwC kd v.toNatClampNeg M).1.2.1 M.1.1 = (kd, v.toNatClampNeg) := by simp [nwC]
  rw [← hR.1]
  rcases hkd with ⟨rfl, rfl⟩ | ⟨rfl, rfl⟩
  · rw [qent_ref (kd := 104) (by rw [h9]) (by omega), h9]
    obtain ⟨kA2, comp2, g1, g2, g3, g4⟩ := (hK.2 4 _ rfl).2
    have hc : cA = X.2.1 4 := Option.some.inj (f1.symm.trans g4)
    show H1[_]? = some (vp_cell _ _)
    rw [e1, vp_cell_q, hc]
    congr 2; funext j; simp [nwC, shO, va_rf]
  · rw [qent_ref (kd := 105) (by rw [h9]) (by omega), h9]
    obtain ⟨kA2, comp2, g1, g2, g3, g4⟩ := (hK.2 5 _ rfl).2
    have hc : cA = X.2.1 5 := Option.some.inj (f1.symm.trans g4)
    show H1[_]? = some (vp_cell _ _)
    rw [e1, vp_cell_q, hc]
    congr 2; funext j; simp [nwC, shO, va_rf]
/-- a reference into an array of references -/
theorem e_aast {kd ci a r : Nat} {i : Int32} {M1 : MM} (h : DC mt pc .aastore 1) (hkd : (kd = 104 ∧ ci = 7) ∨ (kd = 105 ∧ ci = 4)) (hg : sR kd ci a i r M = some M1) (nx : EV mt R res M' k n (pc + 1) ls st M1) : EV mt R res M' k n pc ls (.ref r :: .int i :: .ref a :: st) M := by
  intro X p l e s m args below meth c H locs A hC hR hS hl
  unfold sR at hg
  split at hg
  · next hc =>
    cases hg
    obtain ⟨⟨hc, hin⟩, hr⟩ := hc
    have hlt := hR.lt (a := a) (by omega)
    have he := ws_get (x := X) hlt
    rw [qent_ref hc (by omega)] at he
    have hv := ws_get (x := X) (hR.lt (a := r) (by omega))
    rw [qent_obj hr (by omega)] at hv
    have hK := hC.2.2.2.2.2.2.1.1
    have hlt2 : i.toNatClampNeg < (M.1.2.1 a).2 := Nat.not_le.mp fun q => hin (Or.inr q)
    have h0 : ¬ i < 0 := fun q => hin (Or.inl q)
    have hty : ∃ q : vw_C, classes[ci]? = some q ∧ (tysOf X)[kd - 100]? = some (X.2.1 (kd - 100), .object q.1) := by
      rcases hkd with ⟨rfl, rfl⟩ | ⟨rfl, rfl⟩
      · exact ⟨_, rfl, rfl⟩
      · exact ⟨_, rfl, rfl⟩
    obtain ⟨q, hq, ht⟩ := hty
    obtain ⟨r', hr', cellV, g1, g2, g3, -⟩ := hR.2.1 r _ hv
    have hcls := (hK.1 ci q hq).2
    obtain ⟨kA, comp, k1, k2, k3, -⟩ := (hK.2 (kd - 100) _ ht).2
    have hcomp : comp = X.1.1 ci := Option.some.inj (k3.symm.trans hcls.1)
    subst hcomp
    obtain ⟨kC, hkC, -⟩ := hcls.2
    refine W.aast hC.1 hC.2.1 (hR.2.1 a _ he) (fun q h => by cases h) (fun h => by cases h) k1 k2 rfl hkC ⟨h0, by show _ < (arrV _ _ _).slots.size; rw [arrV_size]; exact hlt2⟩ g1 (fun q h => by rw [g3] at h; cases h) (by rw [g2]; exact hkC) (by rw [g2]; exact va_assign hcls) rfl rfl h fun H1 e1 z oq => ?_
    refine nx X p l e s m args below meth c H1 _ A hC ?_ (hS.put z oq (Nat.le_add_right _ _)) hl
    refine arr_put (M1 := ((M.1.1, M.1.2.1, upd2 M.1.2.2 a i.toNatClampNeg (some r)), M.2)) hR hlt (ws_get hlt) rfl rfl (fun b hb => ⟨rfl, rfl, upd2_ne hb⟩) (qent_ref hc (by omega)) ?_ z oq
    rw [e1, vp_cell_q, vp_cell_q, arrV_store]
    congr 2
    funext q
    by_cases hq : q = i.toNatClampNeg
    · subst hq; simp [updV, upd2, shO, va_rf]
    · simp [updV, upd2, hq]
  · cases hg
end ALLOC
end
