-- ===== PART A: goes FIRST, ahead of the names: the tables' words, and 'selects' of the private methods out of them =====
/-- a private method of a class that the tables say can be made, by its rows of tables_1 -/
def lw_okq (q : MethodName × Nat) : Prop := (q.1.cls ≠ "java/lang/invoke/MethodHandle" ∧ q.1.cls ≠ "java/lang/invoke/VarHandle") ∧ Cond.instantiable q.1.cls q.2 ∈ tables_1 ∧ Cond.privateMethod q.1 ∈ tables_1 ∧ Cond.instanceMethod q.1 ∈ tables_1
theorem lw_p0 : lw_okq (⟨"GalleyRoom", "refuse", "(I)I"⟩, 17) := ⟨⟨by decide +kernel, by decide +kernel⟩, List.mem_of_getElem? (i := 20) (by decide +kernel), List.mem_of_getElem? (i := 425) (by decide +kernel), List.mem_of_getElem? (i := 426) (by decide +kernel)⟩
theorem lw_p1 : lw_okq (⟨"GalleyRoom", "answer", "(I)I"⟩, 17) := ⟨⟨by decide +kernel, by decide +kernel⟩, List.mem_of_getElem? (i := 20) (by decide +kernel), List.mem_of_getElem? (i := 433) (by decide +kernel), List.mem_of_getElem? (i := 434) (by decide +kernel)⟩
theorem lw_p2 : lw_okq (⟨"GalleyRoom$Line", "gatherFacts", "(LGalleyRoom$Galley;II)V"⟩, 9) := ⟨⟨by decide +kernel, by decide +kernel⟩, List.mem_of_getElem? (i := 133) (by decide +kernel), List.mem_of_getElem? (i := 488) (by decide +kernel), List.mem_of_getElem? (i := 489) (by decide +kernel)⟩
theorem lw_p3 : lw_okq (⟨"GalleyRoom$Machine", "combine", "(IJJ)J"⟩, 2) := ⟨⟨by decide +kernel, by decide +kernel⟩, List.mem_of_getElem? (i := 139) (by decide +kernel), List.mem_of_getElem? (i := 501) (by decide +kernel), List.mem_of_getElem? (i := 502) (by decide +kernel)⟩
theorem lw_p4 : lw_okq (⟨"GalleyRoom$Sheet", "writeDown", "(I)V"⟩, 5) := ⟨⟨by decide +kernel, by decide +kernel⟩, List.mem_of_getElem? (i := 125) (by decide +kernel), List.mem_of_getElem? (i := 516) (by decide +kernel), List.mem_of_getElem? (i := 517) (by decide +kernel)⟩
theorem lw_p5 : lw_okq (⟨"GalleyRoom", "putFour", "(I)V"⟩, 17) := ⟨⟨by decide +kernel, by decide +kernel⟩, List.mem_of_getElem? (i := 20) (by decide +kernel), List.mem_of_getElem? (i := 545) (by decide +kernel), List.mem_of_getElem? (i := 546) (by decide +kernel)⟩
theorem lw_p6 : lw_okq (⟨"GalleyRoom", "takeWordAt", "(I)Z"⟩, 17) := ⟨⟨by decide +kernel, by decide +kernel⟩, List.mem_of_getElem? (i := 20) (by decide +kernel), List.mem_of_getElem? (i := 557) (by decide +kernel), List.mem_of_getElem? (i := 558) (by decide +kernel)⟩
theorem lw_p7 : lw_okq (⟨"GalleyRoom$Reader", "cut", "([BI)V"⟩, 7) := ⟨⟨by decide +kernel, by decide +kernel⟩, List.mem_of_getElem? (i := 250) (by decide +kernel), List.mem_of_getElem? (i := 579) (by decide +kernel), List.mem_of_getElem? (i := 580) (by decide +kernel)⟩
theorem lw_p8 : lw_okq (⟨"GalleyRoom$Reader", "readClause", "(I)Z"⟩, 7) := ⟨⟨by decide +kernel, by decide +kernel⟩, List.mem_of_getElem? (i := 250) (by decide +kernel), List.mem_of_getElem? (i := 641) (by decide +kernel), List.mem_of_getElem? (i := 642) (by decide +kernel)⟩
theorem lw_p9 : lw_okq (⟨"GalleyRoom$Reader", "failHere", "()Z"⟩, 7) := ⟨⟨by decide +kernel, by decide +kernel⟩, List.mem_of_getElem? (i := 250) (by decide +kernel), List.mem_of_getElem? (i := 645) (by decide +kernel), List.mem_of_getElem? (i := 646) (by decide +kernel)⟩
theorem lw_p10 : lw_okq (⟨"GalleyRoom$Reader", "readOrder", "(I)Z"⟩, 7) := ⟨⟨by decide +kernel, by decide +kernel⟩, List.mem_of_getElem? (i := 250) (by decide +kernel), List.mem_of_getElem? (i := 649) (by decide +kernel), List.mem_of_getElem? (i := 650) (by decide +kernel)⟩
theorem lw_p11 : lw_okq (⟨"GalleyRoom$Reader", "takeFrom", "(II)I"⟩, 7) := ⟨⟨by decide +kernel, by decide +kernel⟩, List.mem_of_getElem? (i := 250) (by decide +kernel), List.mem_of_getElem? (i := 653) (by decide +kernel), List.mem_of_getElem? (i := 654) (by decide +kernel)⟩
theorem lw_p12 : lw_okq (⟨"GalleyRoom$Reader", "sign", "()I"⟩, 7) := ⟨⟨by decide +kernel, by decide +kernel⟩, List.mem_of_getElem? (i := 250) (by decide +kernel), List.mem_of_getElem? (i := 657) (by decide +kernel), List.mem_of_getElem? (i := 658) (by decide +kernel)⟩
theorem lw_p13 : lw_okq (⟨"GalleyRoom$Reader", "readSum", "(I)Z"⟩, 7) := ⟨⟨by decide +kernel, by decide +kernel⟩, List.mem_of_getElem? (i := 250) (by decide +kernel), List.mem_of_getElem? (i := 661) (by decide +kernel), List.mem_of_getElem? (i := 662) (by decide +kernel)⟩
theorem lw_p14 : lw_okq (⟨"GalleyRoom$Reader", "readTerm", "(I)Z"⟩, 7) := ⟨⟨by decide +kernel, by decide +kernel⟩, List.mem_of_getElem? (i := 250) (by decide +kernel), List.mem_of_getElem? (i := 665) (by decide +kernel), List.mem_of_getElem? (i := 666) (by decide +kernel)⟩
theorem lw_p15 : lw_okq (⟨"GalleyRoom$Reader", "readPart", "(I)Z"⟩, 7) := ⟨⟨by decide +kernel, by decide +kernel⟩, List.mem_of_getElem? (i := 250) (by decide +kernel), List.mem_of_getElem? (i := 669) (by decide +kernel), List.mem_of_getElem? (i := 670) (by decide +kernel)⟩
def lw_privs_1 : List (MethodName × Nat) := [(⟨"GalleyRoom", "refuse", "(I)I"⟩, 17), (⟨"GalleyRoom", "answer", "(I)I"⟩, 17), (⟨"GalleyRoom$Line", "gatherFacts", "(LGalleyRoom$Galley;II)V"⟩, 9), (⟨"GalleyRoom$Machine", "combine", "(IJJ)J"⟩, 2), (⟨"GalleyRoom$Sheet", "writeDown", "(I)V"⟩, 5), (⟨"GalleyRoom", "putFour", "(I)V"⟩, 17), (⟨"GalleyRoom", "takeWordAt", "(I)Z"⟩, 17), (⟨"GalleyRoom$Reader", "cut", "([BI)V"⟩, 7), (⟨"GalleyRoom$Reader", "readClause", "(I)Z"⟩, 7), (⟨"GalleyRoom$Reader", "failHere", "()Z"⟩, 7), (⟨"GalleyRoom$Reader", "readOrder", "(I)Z"⟩, 7), (⟨"GalleyRoom$Reader", "takeFrom", "(II)I"⟩, 7), (⟨"GalleyRoom$Reader", "sign", "()I"⟩, 7), (⟨"GalleyRoom$Reader", "readSum", "(I)Z"⟩, 7), (⟨"GalleyRoom$Reader", "readTerm", "(I)Z"⟩, 7), (⟨"GalleyRoom$Reader", "readPart", "(I)Z"⟩, 7)]
theorem lw_r1 : ∀ q ∈ lw_privs_1, lw_okq q := List.forall_mem_cons.mpr ⟨lw_p0, List.forall_mem_cons.mpr ⟨lw_p1, List.forall_mem_cons.mpr ⟨lw_p2, List.forall_mem_cons.mpr ⟨lw_p3, List.forall_mem_cons.mpr ⟨lw_p4, List.forall_mem_cons.mpr ⟨lw_p5, List.forall_mem_cons.mpr ⟨lw_p6, List.forall_mem_cons.mpr ⟨lw_p7, List.forall_mem_cons.mpr ⟨lw_p8, List.forall_mem_cons.mpr ⟨lw_p9, List.forall_mem_cons.mpr ⟨lw_p10, List.forall_mem_cons.mpr ⟨lw_p11, List.forall_mem_cons.mpr ⟨lw_p12, List.forall_mem_cons.mpr ⟨lw_p13, List.forall_mem_cons.mpr ⟨lw_p14, List.forall_mem_cons.mpr ⟨lw_p15, fun _ h => absurd h List.not_mem_nil⟩⟩⟩⟩⟩⟩⟩⟩⟩⟩⟩⟩⟩⟩⟩⟩
theorem lw_p16 : lw_okq (⟨"GalleyRoom$Reader", "readBracketed", "(I)Z"⟩, 7) := ⟨⟨by decide +kernel, by decide +kernel⟩, List.mem_of_getElem? (i := 250) (by decide +kernel), List.mem_of_getElem? (i := 673) (by decide +kernel), List.mem_of_getElem? (i := 674) (by decide +kernel)⟩
theorem lw_p17 : lw_okq (⟨"GalleyRoom$Reader", "take", "(I)Z"⟩, 7) := ⟨⟨by decide +kernel, by decide +kernel⟩, List.mem_of_getElem? (i := 250) (by decide +kernel), List.mem_of_getElem? (i := 677) (by decide +kernel), List.mem_of_getElem? (i := 678) (by decide +kernel)⟩
theorem lw_p18 : lw_okq (⟨"GalleyRoom$Reader", "readTest", "(I)Z"⟩, 7) := ⟨⟨by decide +kernel, by decide +kernel⟩, List.mem_of_getElem? (i := 250) (by decide +kernel), List.mem_of_getElem? (i := 681) (by decide +kernel), List.mem_of_getElem? (i := 682) (by decide +kernel)⟩
theorem lw_p19 : lw_okq (⟨"GalleyRoom$Reader", "readBoth", "(I)Z"⟩, 7) := ⟨⟨by decide +kernel, by decide +kernel⟩, List.mem_of_getElem? (i := 250) (by decide +kernel), List.mem_of_getElem? (i := 685) (by decide +kernel), List.mem_of_getElem? (i := 686) (by decide +kernel)⟩
theorem lw_p20 : lw_okq (⟨"GalleyRoom$Reader", "readPlain", "(I)Z"⟩, 7) := ⟨⟨by decide +kernel, by decide +kernel⟩, List.mem_of_getElem? (i := 250) (by decide +kernel), List.mem_of_getElem? (i := 689) (by decide +kernel), List.mem_of_getElem? (i := 690) (by decide +kernel)⟩
theorem lw_p21 : lw_okq (⟨"GalleyRoom$Reader", "readComparison", "(I)Z"⟩, 7) := ⟨⟨by decide +kernel, by decide +kernel⟩, List.mem_of_getElem? (i := 250) (by decide +kernel), List.mem_of_getElem? (i := 693) (by decide +kernel), List.mem_of_getElem? (i := 694) (by decide +kernel)⟩
theorem lw_p22 : lw_okq (⟨"GalleyRoom$Reader", "takeOrFail", "(I)Z"⟩, 7) := ⟨⟨by decide +kernel, by decide +kernel⟩, List.mem_of_getElem? (i := 250) (by decide +kernel), List.mem_of_getElem? (i := 708) (by decide +kernel), List.mem_of_getElem? (i := 709) (by decide +kernel)⟩
theorem lw_p23 : lw_okq (⟨"GalleyRoom$Reader", "takeOrderFact", "()I"⟩, 7) := ⟨⟨by decide +kernel, by decide +kernel⟩, List.mem_of_getElem? (i := 250) (by decide +kernel), List.mem_of_getElem? (i := 712) (by decide +kernel), List.mem_of_getElem? (i := 713) (by decide +kernel)⟩
theorem lw_p24 : lw_okq (⟨"GalleyRoom$Reader", "takeLawFact", "()I"⟩, 7) := ⟨⟨by decide +kernel, by decide +kernel⟩, List.mem_of_getElem? (i := 250) (by decide +kernel), List.mem_of_getElem? (i := 716) (by decide +kernel), List.mem_of_getElem? (i := 717) (by decide +kernel)⟩
theorem lw_p25 : lw_okq (⟨"GalleyRoom$Reader", "readRule", "(I)Z"⟩, 7) := ⟨⟨by decide +kernel, by decide +kernel⟩, List.mem_of_getElem? (i := 250) (by decide +kernel), List.mem_of_getElem? (i := 720) (by decide +kernel), List.mem_of_getElem? (i := 721) (by decide +kernel)⟩
theorem lw_p26 : lw_okq (⟨"GalleyRoom$Desk", "gatherOrderFacts", "()V"⟩, 9) := ⟨⟨by decide +kernel, by decide +kernel⟩, List.mem_of_getElem? (i := 28) (by decide +kernel), List.mem_of_getElem? (i := 756) (by decide +kernel), List.mem_of_getElem? (i := 757) (by decide +kernel)⟩
theorem lw_p27 : lw_okq (⟨"GalleyRoom$Desk", "endsOf", "(I)I"⟩, 9) := ⟨⟨by decide +kernel, by decide +kernel⟩, List.mem_of_getElem? (i := 28) (by decide +kernel), List.mem_of_getElem? (i := 765) (by decide +kernel), List.mem_of_getElem? (i := 766) (by decide +kernel)⟩
theorem lw_p28 : lw_okq (⟨"GalleyRoom$Log", "dropOldest", "()V"⟩, 4) := ⟨⟨by decide +kernel, by decide +kernel⟩, List.mem_of_getElem? (i := 105) (by decide +kernel), List.mem_of_getElem? (i := 785) (by decide +kernel), List.mem_of_getElem? (i := 786) (by decide +kernel)⟩
theorem lw_p29 : lw_okq (⟨"GalleyRoom", "layPaper", "(LGalleyRoom$Galley;LGalleyRoom$Text;)V"⟩, 17) := ⟨⟨by decide +kernel, by decide +kernel⟩, List.mem_of_getElem? (i := 20) (by decide +kernel), List.mem_of_getElem? (i := 852) (by decide +kernel), List.mem_of_getElem? (i := 853) (by decide +kernel)⟩
theorem lw_p30 : lw_okq (⟨"GalleyRoom$Paper", "layLine", "(LGalleyRoom$Galley;LGalleyRoom$Text;IIZ)V"⟩, 6) := ⟨⟨by decide +kernel, by decide +kernel⟩, List.mem_of_getElem? (i := 339) (by decide +kernel), List.mem_of_getElem? (i := 872) (by decide +kernel), List.mem_of_getElem? (i := 873) (by decide +kernel)⟩
theorem lw_p31 : lw_okq (⟨"GalleyRoom$Paper", "join", "(II)V"⟩, 6) := ⟨⟨by decide +kernel, by decide +kernel⟩, List.mem_of_getElem? (i := 339) (by decide +kernel), List.mem_of_getElem? (i := 880) (by decide +kernel), List.mem_of_getElem? (i := 881) (by decide +kernel)⟩
def lw_privs_2 : List (MethodName × Nat) := [(⟨"GalleyRoom$Reader", "readBracketed", "(I)Z"⟩, 7), (⟨"GalleyRoom$Reader", "take", "(I)Z"⟩, 7), (⟨"GalleyRoom$Reader", "readTest", "(I)Z"⟩, 7), (⟨"GalleyRoom$Reader", "readBoth", "(I)Z"⟩, 7), (⟨"GalleyRoom$Reader", "readPlain", "(I)Z"⟩, 7), (⟨"GalleyRoom$Reader", "readComparison", "(I)Z"⟩, 7), (⟨"GalleyRoom$Reader", "takeOrFail", "(I)Z"⟩, 7), (⟨"GalleyRoom$Reader", "takeOrderFact", "()I"⟩, 7), (⟨"GalleyRoom$Reader", "takeLawFact", "()I"⟩, 7), (⟨"GalleyRoom$Reader", "readRule", "(I)Z"⟩, 7), (⟨"GalleyRoom$Desk", "gatherOrderFacts", "()V"⟩, 9), (⟨"GalleyRoom$Desk", "endsOf", "(I)I"⟩, 9), (⟨"GalleyRoom$Log", "dropOldest", "()V"⟩, 4), (⟨"GalleyRoom", "layPaper", "(LGalleyRoom$Galley;LGalleyRoom$Text;)V"⟩, 17), (⟨"GalleyRoom$Paper", "layLine", "(LGalleyRoom$Galley;LGalleyRoom$Text;IIZ)V"⟩, 6), (⟨"GalleyRoom$Paper", "join", "(II)V"⟩, 6)]
theorem lw_r2 : ∀ q ∈ lw_privs_2, lw_okq q := List.forall_mem_cons.mpr ⟨lw_p16, List.forall_mem_cons.mpr ⟨lw_p17, List.forall_mem_cons.mpr ⟨lw_p18, List.forall_mem_cons.mpr ⟨lw_p19, List.forall_mem_cons.mpr ⟨lw_p20, List.forall_mem_cons.mpr ⟨lw_p21, List.forall_mem_cons.mpr ⟨lw_p22, List.forall_mem_cons.mpr ⟨lw_p23, List.forall_mem_cons.mpr ⟨lw_p24, List.forall_mem_cons.mpr ⟨lw_p25, List.forall_mem_cons.mpr ⟨lw_p26, List.forall_mem_cons.mpr ⟨lw_p27, List.forall_mem_cons.mpr ⟨lw_p28, List.forall_mem_cons.mpr ⟨lw_p29, List.forall_mem_cons.mpr ⟨lw_p30, List.forall_mem_cons.mpr ⟨lw_p31, fun _ h => absurd h List.not_mem_nil⟩⟩⟩⟩⟩⟩⟩⟩⟩⟩⟩⟩⟩⟩⟩⟩
theorem lw_p32 : lw_okq (⟨"GalleyRoom$Paper", "isBetter", "(III)Z"⟩, 6) := ⟨⟨by decide +kernel, by decide +kernel⟩, List.mem_of_getElem? (i := 339) (by decide +kernel), List.mem_of_getElem? (i := 884) (by decide +kernel), List.mem_of_getElem? (i := 885) (by decide +kernel)⟩
theorem lw_p33 : lw_okq (⟨"GalleyRoom$Paper", "bestSlot", "()I"⟩, 6) := ⟨⟨by decide +kernel, by decide +kernel⟩, List.mem_of_getElem? (i := 339) (by decide +kernel), List.mem_of_getElem? (i := 893) (by decide +kernel), List.mem_of_getElem? (i := 894) (by decide +kernel)⟩
theorem lw_p34 : lw_okq (⟨"GalleyRoom$Sheet", "flowThrough", "(LGalleyRoom$Galley;II)I"⟩, 5) := ⟨⟨by decide +kernel, by decide +kernel⟩, List.mem_of_getElem? (i := 125) (by decide +kernel), List.mem_of_getElem? (i := 966) (by decide +kernel), List.mem_of_getElem? (i := 967) (by decide +kernel)⟩
theorem lw_p35 : lw_okq (⟨"GalleyRoom$Sheet", "isAsSeen", "(LGalleyRoom$Galley;I)Z"⟩, 5) := ⟨⟨by decide +kernel, by decide +kernel⟩, List.mem_of_getElem? (i := 125) (by decide +kernel), List.mem_of_getElem? (i := 990) (by decide +kernel), List.mem_of_getElem? (i := 991) (by decide +kernel)⟩
theorem lw_p36 : lw_okq (⟨"GalleyRoom$Sheet", "tellFact", "(II)I"⟩, 5) := ⟨⟨by decide +kernel, by decide +kernel⟩, List.mem_of_getElem? (i := 125) (by decide +kernel), List.mem_of_getElem? (i := 994) (by decide +kernel), List.mem_of_getElem? (i := 995) (by decide +kernel)⟩
theorem lw_p37 : lw_okq (⟨"GalleyRoomModel", "laysAllWords", "()V"⟩, 68) := ⟨⟨by decide +kernel, by decide +kernel⟩, List.mem_of_getElem? (i := 1051) (by decide +kernel), List.mem_of_getElem? (i := 1057) (by decide +kernel), List.mem_of_getElem? (i := 1058) (by decide +kernel)⟩
theorem lw_p38 : lw_okq (⟨"GalleyRoomModel", "wordMany", "()I"⟩, 68) := ⟨⟨by decide +kernel, by decide +kernel⟩, List.mem_of_getElem? (i := 1051) (by decide +kernel), List.mem_of_getElem? (i := 1061) (by decide +kernel), List.mem_of_getElem? (i := 1062) (by decide +kernel)⟩
theorem lw_p39 : lw_okq (⟨"GalleyRoomModel", "refuses", "(I)I"⟩, 68) := ⟨⟨by decide +kernel, by decide +kernel⟩, List.mem_of_getElem? (i := 1051) (by decide +kernel), List.mem_of_getElem? (i := 1277) (by decide +kernel), List.mem_of_getElem? (i := 1278) (by decide +kernel)⟩
theorem lw_p40 : lw_okq (⟨"GalleyRoomModel", "good", "(I)I"⟩, 68) := ⟨⟨by decide +kernel, by decide +kernel⟩, List.mem_of_getElem? (i := 1051) (by decide +kernel), List.mem_of_getElem? (i := 1281) (by decide +kernel), List.mem_of_getElem? (i := 1282) (by decide +kernel)⟩
theorem lw_p41 : lw_okq (⟨"GalleyRoomModel", "settled", "(I)I"⟩, 68) := ⟨⟨by decide +kernel, by decide +kernel⟩, List.mem_of_getElem? (i := 1051) (by decide +kernel), List.mem_of_getElem? (i := 1289) (by decide +kernel), List.mem_of_getElem? (i := 1290) (by decide +kernel)⟩
theorem lw_p42 : lw_okq (⟨"GalleyRoomModel", "adds", "(III)V"⟩, 68) := ⟨⟨by decide +kernel, by decide +kernel⟩, List.mem_of_getElem? (i := 1051) (by decide +kernel), List.mem_of_getElem? (i := 1300) (by decide +kernel), List.mem_of_getElem? (i := 1301) (by decide +kernel)⟩
theorem lw_p43 : lw_okq (⟨"GalleyRoomModel", "isWord", "(I)Z"⟩, 68) := ⟨⟨by decide +kernel, by decide +kernel⟩, List.mem_of_getElem? (i := 1051) (by decide +kernel), List.mem_of_getElem? (i := 1308) (by decide +kernel), List.mem_of_getElem? (i := 1309) (by decide +kernel)⟩
theorem lw_p44 : lw_okq (⟨"GalleyRoomModel", "endsAfter", "(I)Z"⟩, 68) := ⟨⟨by decide +kernel, by decide +kernel⟩, List.mem_of_getElem? (i := 1051) (by decide +kernel), List.mem_of_getElem? (i := 1312) (by decide +kernel), List.mem_of_getElem? (i := 1313) (by decide +kernel)⟩
theorem lw_p45 : lw_okq (⟨"GalleyRoomModel", "isLast", "(I)Z"⟩, 68) := ⟨⟨by decide +kernel, by decide +kernel⟩, List.mem_of_getElem? (i := 1051) (by decide +kernel), List.mem_of_getElem? (i := 1316) (by decide +kernel), List.mem_of_getElem? (i := 1317) (by decide +kernel)⟩
theorem lw_p46 : lw_okq (⟨"GalleyRoomModel", "isSplit", "(I)Z"⟩, 68) := ⟨⟨by decide +kernel, by decide +kernel⟩, List.mem_of_getElem? (i := 1051) (by decide +kernel), List.mem_of_getElem? (i := 1323) (by decide +kernel), List.mem_of_getElem? (i := 1324) (by decide +kernel)⟩
theorem lw_p47 : lw_okq (⟨"GalleyRoomModel", "readsAs", "(Z)Z"⟩, 68) := ⟨⟨by decide +kernel, by decide +kernel⟩, List.mem_of_getElem? (i := 1051) (by decide +kernel), List.mem_of_getElem? (i := 1357) (by decide +kernel), List.mem_of_getElem? (i := 1358) (by decide +kernel)⟩
def lw_privs_3 : List (MethodName × Nat) := [(⟨"GalleyRoom$Paper", "isBetter", "(III)Z"⟩, 6), (⟨"GalleyRoom$Paper", "bestSlot", "()I"⟩, 6), (⟨"GalleyRoom$Sheet", "flowThrough", "(LGalleyRoom$Galley;II)I"⟩, 5), (⟨"GalleyRoom$Sheet", "isAsSeen", "(LGalleyRoom$Galley;I)Z"⟩, 5), (⟨"GalleyRoom$Sheet", "tellFact", "(II)I"⟩, 5), (⟨"GalleyRoomModel", "laysAllWords", "()V"⟩, 68), (⟨"GalleyRoomModel", "wordMany", "()I"⟩, 68), (⟨"GalleyRoomModel", "refuses", "(I)I"⟩, 68), (⟨"GalleyRoomModel", "good", "(I)I"⟩, 68), (⟨"GalleyRoomModel", "settled", "(I)I"⟩, 68), (⟨"GalleyRoomModel", "adds", "(III)V"⟩, 68), (⟨"GalleyRoomModel", "isWord", "(I)Z"⟩, 68), (⟨"GalleyRoomModel", "endsAfter", "(I)Z"⟩, 68), (⟨"GalleyRoomModel", "isLast", "(I)Z"⟩, 68), (⟨"GalleyRoomModel", "isSplit", "(I)Z"⟩, 68), (⟨"GalleyRoomModel", "readsAs", "(Z)Z"⟩, 68)]
theorem lw_r3 : ∀ q ∈ lw_privs_3, lw_okq q := List.forall_mem_cons.mpr ⟨lw_p32, List.forall_mem_cons.mpr ⟨lw_p33, List.forall_mem_cons.mpr ⟨lw_p34, List.forall_mem_cons.mpr ⟨lw_p35, List.forall_mem_cons.mpr ⟨lw_p36, List.forall_mem_cons.mpr ⟨lw_p37, List.forall_mem_cons.mpr ⟨lw_p38, List.forall_mem_cons.mpr ⟨lw_p39, List.forall_mem_cons.mpr ⟨lw_p40, List.forall_mem_cons.mpr ⟨lw_p41, List.forall_mem_cons.mpr ⟨lw_p42, List.forall_mem_cons.mpr ⟨lw_p43, List.forall_mem_cons.mpr ⟨lw_p44, List.forall_mem_cons.mpr ⟨lw_p45, List.forall_mem_cons.mpr ⟨lw_p46, List.forall_mem_cons.mpr ⟨lw_p47, fun _ h => absurd h List.not_mem_nil⟩⟩⟩⟩⟩⟩⟩⟩⟩⟩⟩⟩⟩⟩⟩⟩
theorem lw_p48 : lw_okq (⟨"GalleyRoomModel", "reads", "()Z"⟩, 68) := ⟨⟨by decide +kernel, by decide +kernel⟩, List.mem_of_getElem? (i := 1051) (by decide +kernel), List.mem_of_getElem? (i := 1361) (by decide +kernel), List.mem_of_getElem? (i := 1362) (by decide +kernel)⟩
theorem lw_p49 : lw_okq (⟨"GalleyRoomModel", "splits", "(I)V"⟩, 68) := ⟨⟨by decide +kernel, by decide +kernel⟩, List.mem_of_getElem? (i := 1051) (by decide +kernel), List.mem_of_getElem? (i := 1365) (by decide +kernel), List.mem_of_getElem? (i := 1366) (by decide +kernel)⟩
theorem lw_p50 : lw_okq (⟨"GalleyRoomModel", "wordOf", "(II)I"⟩, 68) := ⟨⟨by decide +kernel, by decide +kernel⟩, List.mem_of_getElem? (i := 1051) (by decide +kernel), List.mem_of_getElem? (i := 1375) (by decide +kernel), List.mem_of_getElem? (i := 1376) (by decide +kernel)⟩
theorem lw_p51 : lw_okq (⟨"GalleyRoomModel", "readOne", "()V"⟩, 68) := ⟨⟨by decide +kernel, by decide +kernel⟩, List.mem_of_getElem? (i := 1051) (by decide +kernel), List.mem_of_getElem? (i := 1380) (by decide +kernel), List.mem_of_getElem? (i := 1381) (by decide +kernel)⟩
theorem lw_p52 : lw_okq (⟨"GalleyRoomModel", "readOrder", "()V"⟩, 68) := ⟨⟨by decide +kernel, by decide +kernel⟩, List.mem_of_getElem? (i := 1051) (by decide +kernel), List.mem_of_getElem? (i := 1384) (by decide +kernel), List.mem_of_getElem? (i := 1385) (by decide +kernel)⟩
theorem lw_p53 : lw_okq (⟨"GalleyRoomModel", "takes0", "(I)Z"⟩, 68) := ⟨⟨by decide +kernel, by decide +kernel⟩, List.mem_of_getElem? (i := 1051) (by decide +kernel), List.mem_of_getElem? (i := 1388) (by decide +kernel), List.mem_of_getElem? (i := 1389) (by decide +kernel)⟩
theorem lw_p54 : lw_okq (⟨"GalleyRoomModel", "fine", "()Z"⟩, 68) := ⟨⟨by decide +kernel, by decide +kernel⟩, List.mem_of_getElem? (i := 1051) (by decide +kernel), List.mem_of_getElem? (i := 1392) (by decide +kernel), List.mem_of_getElem? (i := 1393) (by decide +kernel)⟩
theorem lw_p55 : lw_okq (⟨"GalleyRoomModel", "readSum", "(I)V"⟩, 68) := ⟨⟨by decide +kernel, by decide +kernel⟩, List.mem_of_getElem? (i := 1051) (by decide +kernel), List.mem_of_getElem? (i := 1396) (by decide +kernel), List.mem_of_getElem? (i := 1397) (by decide +kernel)⟩
theorem lw_p56 : lw_okq (⟨"GalleyRoomModel", "readTerm", "(I)V"⟩, 68) := ⟨⟨by decide +kernel, by decide +kernel⟩, List.mem_of_getElem? (i := 1051) (by decide +kernel), List.mem_of_getElem? (i := 1400) (by decide +kernel), List.mem_of_getElem? (i := 1401) (by decide +kernel)⟩
theorem lw_p57 : lw_okq (⟨"GalleyRoomModel", "readPart", "(I)V"⟩, 68) := ⟨⟨by decide +kernel, by decide +kernel⟩, List.mem_of_getElem? (i := 1051) (by decide +kernel), List.mem_of_getElem? (i := 1404) (by decide +kernel), List.mem_of_getElem? (i := 1405) (by decide +kernel)⟩
theorem lw_p58 : lw_okq (⟨"GalleyRoomModel", "faults", "()V"⟩, 68) := ⟨⟨by decide +kernel, by decide +kernel⟩, List.mem_of_getElem? (i := 1051) (by decide +kernel), List.mem_of_getElem? (i := 1411) (by decide +kernel), List.mem_of_getElem? (i := 1412) (by decide +kernel)⟩
theorem lw_p59 : lw_okq (⟨"GalleyRoomModel", "must", "(I)V"⟩, 68) := ⟨⟨by decide +kernel, by decide +kernel⟩, List.mem_of_getElem? (i := 1051) (by decide +kernel), List.mem_of_getElem? (i := 1415) (by decide +kernel), List.mem_of_getElem? (i := 1416) (by decide +kernel)⟩
theorem lw_p60 : lw_okq (⟨"GalleyRoomModel", "tellsOp", "(II)I"⟩, 68) := ⟨⟨by decide +kernel, by decide +kernel⟩, List.mem_of_getElem? (i := 1051) (by decide +kernel), List.mem_of_getElem? (i := 1419) (by decide +kernel), List.mem_of_getElem? (i := 1420) (by decide +kernel)⟩
theorem lw_p61 : lw_okq (⟨"GalleyRoomModel", "leaf", "()V"⟩, 68) := ⟨⟨by decide +kernel, by decide +kernel⟩, List.mem_of_getElem? (i := 1051) (by decide +kernel), List.mem_of_getElem? (i := 1423) (by decide +kernel), List.mem_of_getElem? (i := 1424) (by decide +kernel)⟩
theorem lw_p62 : lw_okq (⟨"GalleyRoomModel", "mustNumber", "(II)V"⟩, 68) := ⟨⟨by decide +kernel, by decide +kernel⟩, List.mem_of_getElem? (i := 1051) (by decide +kernel), List.mem_of_getElem? (i := 1427) (by decide +kernel), List.mem_of_getElem? (i := 1428) (by decide +kernel)⟩
theorem lw_p63 : lw_okq (⟨"GalleyRoomModel", "readTest", "(I)V"⟩, 68) := ⟨⟨by decide +kernel, by decide +kernel⟩, List.mem_of_getElem? (i := 1051) (by decide +kernel), List.mem_of_getElem? (i := 1431) (by decide +kernel), List.mem_of_getElem? (i := 1432) (by decide +kernel)⟩
def lw_privs_4 : List (MethodName × Nat) := [(⟨"GalleyRoomModel", "reads", "()Z"⟩, 68), (⟨"GalleyRoomModel", "splits", "(I)V"⟩, 68), (⟨"GalleyRoomModel", "wordOf", "(II)I"⟩, 68), (⟨"GalleyRoomModel", "readOne", "()V"⟩, 68), (⟨"GalleyRoomModel", "readOrder", "()V"⟩, 68), (⟨"GalleyRoomModel", "takes0", "(I)Z"⟩, 68), (⟨"GalleyRoomModel", "fine", "()Z"⟩, 68), (⟨"GalleyRoomModel", "readSum", "(I)V"⟩, 68), (⟨"GalleyRoomModel", "readTerm", "(I)V"⟩, 68), (⟨"GalleyRoomModel", "readPart", "(I)V"⟩, 68), (⟨"GalleyRoomModel", "faults", "()V"⟩, 68), (⟨"GalleyRoomModel", "must", "(I)V"⟩, 68), (⟨"GalleyRoomModel", "tellsOp", "(II)I"⟩, 68), (⟨"GalleyRoomModel", "leaf", "()V"⟩, 68), (⟨"GalleyRoomModel", "mustNumber", "(II)V"⟩, 68), (⟨"GalleyRoomModel", "readTest", "(I)V"⟩, 68)]
theorem lw_r4 : ∀ q ∈ lw_privs_4, lw_okq q := List.forall_mem_cons.mpr ⟨lw_p48, List.forall_mem_cons.mpr ⟨lw_p49, List.forall_mem_cons.mpr ⟨lw_p50, List.forall_mem_cons.mpr ⟨lw_p51, List.forall_mem_cons.mpr ⟨lw_p52, List.forall_mem_cons.mpr ⟨lw_p53, List.forall_mem_cons.mpr ⟨lw_p54, List.forall_mem_cons.mpr ⟨lw_p55, List.forall_mem_cons.mpr ⟨lw_p56, List.forall_mem_cons.mpr ⟨lw_p57, List.forall_mem_cons.mpr ⟨lw_p58, List.forall_mem_cons.mpr ⟨lw_p59, List.forall_mem_cons.mpr ⟨lw_p60, List.forall_mem_cons.mpr ⟨lw_p61, List.forall_mem_cons.mpr ⟨lw_p62, List.forall_mem_cons.mpr ⟨lw_p63, fun _ h => absurd h List.not_mem_nil⟩⟩⟩⟩⟩⟩⟩⟩⟩⟩⟩⟩⟩⟩⟩⟩
theorem lw_p64 : lw_okq (⟨"GalleyRoomModel", "readBoth", "(I)V"⟩, 68) := ⟨⟨by decide +kernel, by decide +kernel⟩, List.mem_of_getElem? (i := 1051) (by decide +kernel), List.mem_of_getElem? (i := 1435) (by decide +kernel), List.mem_of_getElem? (i := 1436) (by decide +kernel)⟩
theorem lw_p65 : lw_okq (⟨"GalleyRoomModel", "readPlain", "(I)V"⟩, 68) := ⟨⟨by decide +kernel, by decide +kernel⟩, List.mem_of_getElem? (i := 1051) (by decide +kernel), List.mem_of_getElem? (i := 1439) (by decide +kernel), List.mem_of_getElem? (i := 1440) (by decide +kernel)⟩
theorem lw_p66 : lw_okq (⟨"GalleyRoomModel", "readClause", "()V"⟩, 68) := ⟨⟨by decide +kernel, by decide +kernel⟩, List.mem_of_getElem? (i := 1051) (by decide +kernel), List.mem_of_getElem? (i := 1443) (by decide +kernel), List.mem_of_getElem? (i := 1444) (by decide +kernel)⟩
theorem lw_p67 : lw_okq (⟨"GalleyRoomModel", "laysOps", "(I)V"⟩, 68) := ⟨⟨by decide +kernel, by decide +kernel⟩, List.mem_of_getElem? (i := 1051) (by decide +kernel), List.mem_of_getElem? (i := 1447) (by decide +kernel), List.mem_of_getElem? (i := 1448) (by decide +kernel)⟩
theorem lw_p68 : lw_okq (⟨"GalleyRoomModel", "isLaw", "(I)Z"⟩, 68) := ⟨⟨by decide +kernel, by decide +kernel⟩, List.mem_of_getElem? (i := 1051) (by decide +kernel), List.mem_of_getElem? (i := 1459) (by decide +kernel), List.mem_of_getElem? (i := 1460) (by decide +kernel)⟩
theorem lw_p69 : lw_okq (⟨"GalleyRoomModel", "laysSetting", "()V"⟩, 68) := ⟨⟨by decide +kernel, by decide +kernel⟩, List.mem_of_getElem? (i := 1051) (by decide +kernel), List.mem_of_getElem? (i := 1467) (by decide +kernel), List.mem_of_getElem? (i := 1468) (by decide +kernel)⟩
theorem lw_p70 : lw_okq (⟨"GalleyRoomModel", "takesSet", "(I)V"⟩, 68) := ⟨⟨by decide +kernel, by decide +kernel⟩, List.mem_of_getElem? (i := 1051) (by decide +kernel), List.mem_of_getElem? (i := 1471) (by decide +kernel), List.mem_of_getElem? (i := 1472) (by decide +kernel)⟩
theorem lw_p71 : lw_okq (⟨"GalleyRoomModel", "takesLine", "(IIII)V"⟩, 68) := ⟨⟨by decide +kernel, by decide +kernel⟩, List.mem_of_getElem? (i := 1051) (by decide +kernel), List.mem_of_getElem? (i := 1475) (by decide +kernel), List.mem_of_getElem? (i := 1476) (by decide +kernel)⟩
theorem lw_p72 : lw_okq (⟨"GalleyRoomModel", "addsPiece", "(I)V"⟩, 68) := ⟨⟨by decide +kernel, by decide +kernel⟩, List.mem_of_getElem? (i := 1051) (by decide +kernel), List.mem_of_getElem? (i := 1482) (by decide +kernel), List.mem_of_getElem? (i := 1483) (by decide +kernel)⟩
theorem lw_p73 : lw_okq (⟨"GalleyRoomModel", "costsNow", "()I"⟩, 68) := ⟨⟨by decide +kernel, by decide +kernel⟩, List.mem_of_getElem? (i := 1051) (by decide +kernel), List.mem_of_getElem? (i := 1486) (by decide +kernel), List.mem_of_getElem? (i := 1487) (by decide +kernel)⟩
theorem lw_p74 : lw_okq (⟨"GalleyRoomModel", "setsAsked", "()V"⟩, 68) := ⟨⟨by decide +kernel, by decide +kernel⟩, List.mem_of_getElem? (i := 1051) (by decide +kernel), List.mem_of_getElem? (i := 1490) (by decide +kernel), List.mem_of_getElem? (i := 1491) (by decide +kernel)⟩
theorem lw_p75 : lw_okq (⟨"GalleyRoomModel", "isLastLine", "()Z"⟩, 68) := ⟨⟨by decide +kernel, by decide +kernel⟩, List.mem_of_getElem? (i := 1051) (by decide +kernel), List.mem_of_getElem? (i := 1494) (by decide +kernel), List.mem_of_getElem? (i := 1495) (by decide +kernel)⟩
theorem lw_p76 : lw_okq (⟨"GalleyRoomModel", "lastPlace", "()I"⟩, 68) := ⟨⟨by decide +kernel, by decide +kernel⟩, List.mem_of_getElem? (i := 1051) (by decide +kernel), List.mem_of_getElem? (i := 1498) (by decide +kernel), List.mem_of_getElem? (i := 1499) (by decide +kernel)⟩
theorem lw_p77 : lw_okq (⟨"GalleyRoomModel", "tells", "(III)I"⟩, 68) := ⟨⟨by decide +kernel, by decide +kernel⟩, List.mem_of_getElem? (i := 1051) (by decide +kernel), List.mem_of_getElem? (i := 1505) (by decide +kernel), List.mem_of_getElem? (i := 1506) (by decide +kernel)⟩
theorem lw_p78 : lw_okq (⟨"GalleyRoomModel", "holds", "(III)Z"⟩, 68) := ⟨⟨by decide +kernel, by decide +kernel⟩, List.mem_of_getElem? (i := 1051) (by decide +kernel), List.mem_of_getElem? (i := 1509) (by decide +kernel), List.mem_of_getElem? (i := 1510) (by decide +kernel)⟩
theorem lw_p79 : lw_okq (⟨"GalleyRoomModel", "workedOff", "(IJJ)J"⟩, 68) := ⟨⟨by decide +kernel, by decide +kernel⟩, List.mem_of_getElem? (i := 1051) (by decide +kernel), List.mem_of_getElem? (i := 1513) (by decide +kernel), List.mem_of_getElem? (i := 1514) (by decide +kernel)⟩
def lw_privs_5 : List (MethodName × Nat) := [(⟨"GalleyRoomModel", "readBoth", "(I)V"⟩, 68), (⟨"GalleyRoomModel", "readPlain", "(I)V"⟩, 68), (⟨"GalleyRoomModel", "readClause", "()V"⟩, 68), (⟨"GalleyRoomModel", "laysOps", "(I)V"⟩, 68), (⟨"GalleyRoomModel", "isLaw", "(I)Z"⟩, 68), (⟨"GalleyRoomModel", "laysSetting", "()V"⟩, 68), (⟨"GalleyRoomModel", "takesSet", "(I)V"⟩, 68), (⟨"GalleyRoomModel", "takesLine", "(IIII)V"⟩, 68), (⟨"GalleyRoomModel", "addsPiece", "(I)V"⟩, 68), (⟨"GalleyRoomModel", "costsNow", "()I"⟩, 68), (⟨"GalleyRoomModel", "setsAsked", "()V"⟩, 68), (⟨"GalleyRoomModel", "isLastLine", "()Z"⟩, 68), (⟨"GalleyRoomModel", "lastPlace", "()I"⟩, 68), (⟨"GalleyRoomModel", "tells", "(III)I"⟩, 68), (⟨"GalleyRoomModel", "holds", "(III)Z"⟩, 68), (⟨"GalleyRoomModel", "workedOff", "(IJJ)J"⟩, 68)]
theorem lw_r5 : ∀ q ∈ lw_privs_5, lw_okq q := List.forall_mem_cons.mpr ⟨lw_p64, List.forall_mem_cons.mpr ⟨lw_p65, List.forall_mem_cons.mpr ⟨lw_p66, List.forall_mem_cons.mpr ⟨lw_p67, List.forall_mem_cons.mpr ⟨lw_p68, List.forall_mem_cons.mpr ⟨lw_p69, List.forall_mem_cons.mpr ⟨lw_p70, List.forall_mem_cons.mpr ⟨lw_p71, List.forall_mem_cons.mpr ⟨lw_p72, List.forall_mem_cons.mpr ⟨lw_p73, List.forall_mem_cons.mpr ⟨lw_p74, List.forall_mem_cons.mpr ⟨lw_p75, List.forall_mem_cons.mpr ⟨lw_p76, List.forall_mem_cons.mpr ⟨lw_p77, List.forall_mem_cons.mpr ⟨lw_p78, List.forall_mem_cons.mpr ⟨lw_p79, fun _ h => absurd h List.not_mem_nil⟩⟩⟩⟩⟩⟩⟩⟩⟩⟩⟩⟩⟩⟩⟩⟩
theorem lw_p80 : lw_okq (⟨"GalleyRoomModel", "bounded", "(JZ)J"⟩, 68) := ⟨⟨by decide +kernel, by decide +kernel⟩, List.mem_of_getElem? (i := 1051) (by decide +kernel), List.mem_of_getElem? (i := 1517) (by decide +kernel), List.mem_of_getElem? (i := 1518) (by decide +kernel)⟩
theorem lw_p81 : lw_okq (⟨"GalleyRoomModel", "paysNow", "()I"⟩, 68) := ⟨⟨by decide +kernel, by decide +kernel⟩, List.mem_of_getElem? (i := 1051) (by decide +kernel), List.mem_of_getElem? (i := 1523) (by decide +kernel), List.mem_of_getElem? (i := 1524) (by decide +kernel)⟩
theorem lw_p82 : lw_okq (⟨"GalleyRoomModel", "isBarred", "()Z"⟩, 68) := ⟨⟨by decide +kernel, by decide +kernel⟩, List.mem_of_getElem? (i := 1051) (by decide +kernel), List.mem_of_getElem? (i := 1527) (by decide +kernel), List.mem_of_getElem? (i := 1528) (by decide +kernel)⟩
theorem lw_p83 : lw_okq (⟨"GalleyRoomModel", "fitsNow", "()Z"⟩, 68) := ⟨⟨by decide +kernel, by decide +kernel⟩, List.mem_of_getElem? (i := 1051) (by decide +kernel), List.mem_of_getElem? (i := 1531) (by decide +kernel), List.mem_of_getElem? (i := 1532) (by decide +kernel)⟩
theorem lw_p84 : lw_okq (⟨"GalleyRoomModel", "allOf", "(I)I"⟩, 68) := ⟨⟨by decide +kernel, by decide +kernel⟩, List.mem_of_getElem? (i := 1051) (by decide +kernel), List.mem_of_getElem? (i := 1539) (by decide +kernel), List.mem_of_getElem? (i := 1540) (by decide +kernel)⟩
theorem lw_p85 : lw_okq (⟨"GalleyRoomModel", "stopsKept", "(I)I"⟩, 68) := ⟨⟨by decide +kernel, by decide +kernel⟩, List.mem_of_getElem? (i := 1051) (by decide +kernel), List.mem_of_getElem? (i := 1551) (by decide +kernel), List.mem_of_getElem? (i := 1552) (by decide +kernel)⟩
theorem lw_p86 : lw_okq (⟨"GalleyRoomModel", "keeps", "(I)V"⟩, 68) := ⟨⟨by decide +kernel, by decide +kernel⟩, List.mem_of_getElem? (i := 1051) (by decide +kernel), List.mem_of_getElem? (i := 1555) (by decide +kernel), List.mem_of_getElem? (i := 1556) (by decide +kernel)⟩
theorem lw_p87 : lw_okq (⟨"GalleyRoomModel", "goodOr", "(I)I"⟩, 68) := ⟨⟨by decide +kernel, by decide +kernel⟩, List.mem_of_getElem? (i := 1051) (by decide +kernel), List.mem_of_getElem? (i := 1559) (by decide +kernel), List.mem_of_getElem? (i := 1560) (by decide +kernel)⟩
theorem lw_p88 : lw_okq (⟨"GalleyRoomModel", "splitsKept", "(I)I"⟩, 68) := ⟨⟨by decide +kernel, by decide +kernel⟩, List.mem_of_getElem? (i := 1051) (by decide +kernel), List.mem_of_getElem? (i := 1567) (by decide +kernel), List.mem_of_getElem? (i := 1568) (by decide +kernel)⟩
theorem lw_p89 : lw_okq (⟨"GalleyRoomModel", "swellsKept", "(II)I"⟩, 68) := ⟨⟨by decide +kernel, by decide +kernel⟩, List.mem_of_getElem? (i := 1051) (by decide +kernel), List.mem_of_getElem? (i := 1575) (by decide +kernel), List.mem_of_getElem? (i := 1576) (by decide +kernel)⟩
theorem lw_p90 : lw_okq (⟨"GalleyRoomModel", "canSwell", "(II)Z"⟩, 68) := ⟨⟨by decide +kernel, by decide +kernel⟩, List.mem_of_getElem? (i := 1051) (by decide +kernel), List.mem_of_getElem? (i := 1579) (by decide +kernel), List.mem_of_getElem? (i := 1580) (by decide +kernel)⟩
theorem lw_p91 : lw_okq (⟨"GalleyRoomModel", "passesKept", "()I"⟩, 68) := ⟨⟨by decide +kernel, by decide +kernel⟩, List.mem_of_getElem? (i := 1051) (by decide +kernel), List.mem_of_getElem? (i := 1587) (by decide +kernel), List.mem_of_getElem? (i := 1588) (by decide +kernel)⟩
theorem lw_p92 : lw_okq (⟨"GalleyRoomModel", "bestNow", "()I"⟩, 68) := ⟨⟨by decide +kernel, by decide +kernel⟩, List.mem_of_getElem? (i := 1051) (by decide +kernel), List.mem_of_getElem? (i := 1595) (by decide +kernel), List.mem_of_getElem? (i := 1596) (by decide +kernel)⟩
theorem lw_p93 : lw_okq (⟨"GalleyRoomModel", "laysLines", "(IZ)V"⟩, 68) := ⟨⟨by decide +kernel, by decide +kernel⟩, List.mem_of_getElem? (i := 1051) (by decide +kernel), List.mem_of_getElem? (i := 1599) (by decide +kernel), List.mem_of_getElem? (i := 1600) (by decide +kernel)⟩
theorem lw_p94 : lw_okq (⟨"GalleyRoomModel", "isPlace", "(I)Z"⟩, 68) := ⟨⟨by decide +kernel, by decide +kernel⟩, List.mem_of_getElem? (i := 1051) (by decide +kernel), List.mem_of_getElem? (i := 1603) (by decide +kernel), List.mem_of_getElem? (i := 1604) (by decide +kernel)⟩
theorem lw_p95 : lw_okq (⟨"GalleyRoomModel", "laysLine", "(IIIIZ)V"⟩, 68) := ⟨⟨by decide +kernel, by decide +kernel⟩, List.mem_of_getElem? (i := 1051) (by decide +kernel), List.mem_of_getElem? (i := 1607) (by decide +kernel), List.mem_of_getElem? (i := 1608) (by decide +kernel)⟩
def lw_privs_6 : List (MethodName × Nat) := [(⟨"GalleyRoomModel", "bounded", "(JZ)J"⟩, 68), (⟨"GalleyRoomModel", "paysNow", "()I"⟩, 68), (⟨"GalleyRoomModel", "isBarred", "()Z"⟩, 68), (⟨"GalleyRoomModel", "fitsNow", "()Z"⟩, 68), (⟨"GalleyRoomModel", "allOf", "(I)I"⟩, 68), (⟨"GalleyRoomModel", "stopsKept", "(I)I"⟩, 68), (⟨"GalleyRoomModel", "keeps", "(I)V"⟩, 68), (⟨"GalleyRoomModel", "goodOr", "(I)I"⟩, 68), (⟨"GalleyRoomModel", "splitsKept", "(I)I"⟩, 68), (⟨"GalleyRoomModel", "swellsKept", "(II)I"⟩, 68), (⟨"GalleyRoomModel", "canSwell", "(II)Z"⟩, 68), (⟨"GalleyRoomModel", "passesKept", "()I"⟩, 68), (⟨"GalleyRoomModel", "bestNow", "()I"⟩, 68), (⟨"GalleyRoomModel", "laysLines", "(IZ)V"⟩, 68), (⟨"GalleyRoomModel", "isPlace", "(I)Z"⟩, 68), (⟨"GalleyRoomModel", "laysLine", "(IIIIZ)V"⟩, 68)]
theorem lw_r6 : ∀ q ∈ lw_privs_6, lw_okq q := List.forall_mem_cons.mpr ⟨lw_p80, List.forall_mem_cons.mpr ⟨lw_p81, List.forall_mem_cons.mpr ⟨lw_p82, List.forall_mem_cons.mpr ⟨lw_p83, List.forall_mem_cons.mpr ⟨lw_p84, List.forall_mem_cons.mpr ⟨lw_p85, List.forall_mem_cons.mpr ⟨lw_p86, List.forall_mem_cons.mpr ⟨lw_p87, List.forall_mem_cons.mpr ⟨lw_p88, List.forall_mem_cons.mpr ⟨lw_p89, List.forall_mem_cons.mpr ⟨lw_p90, List.forall_mem_cons.mpr ⟨lw_p91, List.forall_mem_cons.mpr ⟨lw_p92, List.forall_mem_cons.mpr ⟨lw_p93, List.forall_mem_cons.mpr ⟨lw_p94, List.forall_mem_cons.mpr ⟨lw_p95, fun _ h => absurd h List.not_mem_nil⟩⟩⟩⟩⟩⟩⟩⟩⟩⟩⟩⟩⟩⟩⟩⟩
theorem lw_p96 : lw_okq (⟨"GalleyRoomModel", "laysLeast", "()V"⟩, 68) := ⟨⟨by decide +kernel, by decide +kernel⟩, List.mem_of_getElem? (i := 1051) (by decide +kernel), List.mem_of_getElem? (i := 1614) (by decide +kernel), List.mem_of_getElem? (i := 1615) (by decide +kernel)⟩
theorem lw_p97 : lw_okq (⟨"GalleyRoomModel", "isStart", "(I)Z"⟩, 68) := ⟨⟨by decide +kernel, by decide +kernel⟩, List.mem_of_getElem? (i := 1051) (by decide +kernel), List.mem_of_getElem? (i := 1619) (by decide +kernel), List.mem_of_getElem? (i := 1620) (by decide +kernel)⟩
theorem lw_p98 : lw_okq (⟨"GalleyRoomModel", "canLine", "(III)Z"⟩, 68) := ⟨⟨by decide +kernel, by decide +kernel⟩, List.mem_of_getElem? (i := 1051) (by decide +kernel), List.mem_of_getElem? (i := 1623) (by decide +kernel), List.mem_of_getElem? (i := 1624) (by decide +kernel)⟩
theorem lw_p99 : lw_okq (⟨"GalleyRoomModel", "laysCosts", "()V"⟩, 68) := ⟨⟨by decide +kernel, by decide +kernel⟩, List.mem_of_getElem? (i := 1051) (by decide +kernel), List.mem_of_getElem? (i := 1637) (by decide +kernel), List.mem_of_getElem? (i := 1638) (by decide +kernel)⟩
theorem lw_p100 : lw_okq (⟨"GalleyRoomModel", "laysSums", "(Z)V"⟩, 68) := ⟨⟨by decide +kernel, by decide +kernel⟩, List.mem_of_getElem? (i := 1051) (by decide +kernel), List.mem_of_getElem? (i := 1641) (by decide +kernel), List.mem_of_getElem? (i := 1642) (by decide +kernel)⟩
theorem lw_p101 : lw_okq (⟨"GalleyRoomModel", "takesSum", "(IIIZ)V"⟩, 68) := ⟨⟨by decide +kernel, by decide +kernel⟩, List.mem_of_getElem? (i := 1051) (by decide +kernel), List.mem_of_getElem? (i := 1646) (by decide +kernel), List.mem_of_getElem? (i := 1647) (by decide +kernel)⟩
theorem lw_p102 : lw_okq (⟨"GalleyRoomModel", "costsBy", "(I)I"⟩, 68) := ⟨⟨by decide +kernel, by decide +kernel⟩, List.mem_of_getElem? (i := 1051) (by decide +kernel), List.mem_of_getElem? (i := 1650) (by decide +kernel), List.mem_of_getElem? (i := 1651) (by decide +kernel)⟩
theorem lw_p103 : lw_okq (⟨"GalleyRoomModel", "isBy", "(I)Z"⟩, 68) := ⟨⟨by decide +kernel, by decide +kernel⟩, List.mem_of_getElem? (i := 1051) (by decide +kernel), List.mem_of_getElem? (i := 1674) (by decide +kernel), List.mem_of_getElem? (i := 1675) (by decide +kernel)⟩
theorem lw_p104 : lw_okq (⟨"GalleyRoomModel", "leavesOut", "(I)V"⟩, 68) := ⟨⟨by decide +kernel, by decide +kernel⟩, List.mem_of_getElem? (i := 1051) (by decide +kernel), List.mem_of_getElem? (i := 1682) (by decide +kernel), List.mem_of_getElem? (i := 1683) (by decide +kernel)⟩
theorem lw_p105 : lw_okq (⟨"GalleyRoomModel", "laysSpaces", "(II)V"⟩, 68) := ⟨⟨by decide +kernel, by decide +kernel⟩, List.mem_of_getElem? (i := 1051) (by decide +kernel), List.mem_of_getElem? (i := 1694) (by decide +kernel), List.mem_of_getElem? (i := 1695) (by decide +kernel)⟩
theorem lw_p106 : lw_okq (⟨"GalleyRoomModel", "addsSpaced", "(IIZI)I"⟩, 68) := ⟨⟨by decide +kernel, by decide +kernel⟩, List.mem_of_getElem? (i := 1051) (by decide +kernel), List.mem_of_getElem? (i := 1698) (by decide +kernel), List.mem_of_getElem? (i := 1699) (by decide +kernel)⟩
theorem lw_p107 : lw_okq (⟨"GalleyRoomModel", "riverTo", "(II)I"⟩, 68) := ⟨⟨by decide +kernel, by decide +kernel⟩, List.mem_of_getElem? (i := 1051) (by decide +kernel), List.mem_of_getElem? (i := 1702) (by decide +kernel), List.mem_of_getElem? (i := 1703) (by decide +kernel)⟩
theorem lw_p108 : lw_okq (⟨"GalleyRoomModel", "laysFacts", "()V"⟩, 68) := ⟨⟨by decide +kernel, by decide +kernel⟩, List.mem_of_getElem? (i := 1051) (by decide +kernel), List.mem_of_getElem? (i := 1718) (by decide +kernel), List.mem_of_getElem? (i := 1719) (by decide +kernel)⟩
theorem lw_p109 : lw_okq (⟨"GalleyRoomModel", "isSo", "(I)Z"⟩, 68) := ⟨⟨by decide +kernel, by decide +kernel⟩, List.mem_of_getElem? (i := 1051) (by decide +kernel), List.mem_of_getElem? (i := 1722) (by decide +kernel), List.mem_of_getElem? (i := 1723) (by decide +kernel)⟩
theorem lw_p110 : lw_okq (⟨"GalleyRoomModel", "mostAlike", "(II)I"⟩, 68) := ⟨⟨by decide +kernel, by decide +kernel⟩, List.mem_of_getElem? (i := 1051) (by decide +kernel), List.mem_of_getElem? (i := 1731) (by decide +kernel), List.mem_of_getElem? (i := 1732) (by decide +kernel)⟩
theorem lw_p111 : lw_okq (⟨"GalleyRoomModel", "laysAside", "(I)V"⟩, 68) := ⟨⟨by decide +kernel, by decide +kernel⟩, List.mem_of_getElem? (i := 1051) (by decide +kernel), List.mem_of_getElem? (i := 1750) (by decide +kernel), List.mem_of_getElem? (i := 1751) (by decide +kernel)⟩
def lw_privs_7 : List (MethodName × Nat) := [(⟨"GalleyRoomModel", "laysLeast", "()V"⟩, 68), (⟨"GalleyRoomModel", "isStart", "(I)Z"⟩, 68), (⟨"GalleyRoomModel", "canLine", "(III)Z"⟩, 68), (⟨"GalleyRoomModel", "laysCosts", "()V"⟩, 68), (⟨"GalleyRoomModel", "laysSums", "(Z)V"⟩, 68), (⟨"GalleyRoomModel", "takesSum", "(IIIZ)V"⟩, 68), (⟨"GalleyRoomModel", "costsBy", "(I)I"⟩, 68), (⟨"GalleyRoomModel", "isBy", "(I)Z"⟩, 68), (⟨"GalleyRoomModel", "leavesOut", "(I)V"⟩, 68), (⟨"GalleyRoomModel", "laysSpaces", "(II)V"⟩, 68), (⟨"GalleyRoomModel", "addsSpaced", "(IIZI)I"⟩, 68), (⟨"GalleyRoomModel", "riverTo", "(II)I"⟩, 68), (⟨"GalleyRoomModel", "laysFacts", "()V"⟩, 68), (⟨"GalleyRoomModel", "isSo", "(I)Z"⟩, 68), (⟨"GalleyRoomModel", "mostAlike", "(II)I"⟩, 68), (⟨"GalleyRoomModel", "laysAside", "(I)V"⟩, 68)]
theorem lw_r7 : ∀ q ∈ lw_privs_7, lw_okq q := List.forall_mem_cons.mpr ⟨lw_p96, List.forall_mem_cons.mpr ⟨lw_p97, List.forall_mem_cons.mpr ⟨lw_p98, List.forall_mem_cons.mpr ⟨lw_p99, List.forall_mem_cons.mpr ⟨lw_p100, List.forall_mem_cons.mpr ⟨lw_p101, List.forall_mem_cons.mpr ⟨lw_p102, List.forall_mem_cons.mpr ⟨lw_p103, List.forall_mem_cons.mpr ⟨lw_p104, List.forall_mem_cons.mpr ⟨lw_p105, List.forall_mem_cons.mpr ⟨lw_p106, List.forall_mem_cons.mpr ⟨lw_p107, List.forall_mem_cons.mpr ⟨lw_p108, List.forall_mem_cons.mpr ⟨lw_p109, List.forall_mem_cons.mpr ⟨lw_p110, List.forall_mem_cons.mpr ⟨lw_p111, fun _ h => absurd h List.not_mem_nil⟩⟩⟩⟩⟩⟩⟩⟩⟩⟩⟩⟩⟩⟩⟩⟩
theorem lw_p112 : lw_okq (⟨"GalleyRoomModel", "lays", "(I)V"⟩, 68) := ⟨⟨by decide +kernel, by decide +kernel⟩, List.mem_of_getElem? (i := 1051) (by decide +kernel), List.mem_of_getElem? (i := 1754) (by decide +kernel), List.mem_of_getElem? (i := 1755) (by decide +kernel)⟩
theorem lw_p113 : lw_okq (⟨"GalleyRoomModel", "runs", "(I)Z"⟩, 68) := ⟨⟨by decide +kernel, by decide +kernel⟩, List.mem_of_getElem? (i := 1051) (by decide +kernel), List.mem_of_getElem? (i := 1758) (by decide +kernel), List.mem_of_getElem? (i := 1759) (by decide +kernel)⟩
theorem lw_p114 : lw_okq (⟨"GalleyRoomModel", "goesAlong", "(IZ)V"⟩, 68) := ⟨⟨by decide +kernel, by decide +kernel⟩, List.mem_of_getElem? (i := 1051) (by decide +kernel), List.mem_of_getElem? (i := 1762) (by decide +kernel), List.mem_of_getElem? (i := 1763) (by decide +kernel)⟩
theorem lw_p115 : lw_okq (⟨"GalleyRoomModel", "settingLines", "()I"⟩, 68) := ⟨⟨by decide +kernel, by decide +kernel⟩, List.mem_of_getElem? (i := 1051) (by decide +kernel), List.mem_of_getElem? (i := 1766) (by decide +kernel), List.mem_of_getElem? (i := 1767) (by decide +kernel)⟩
theorem lw_p116 : lw_okq (⟨"GalleyRoomModel", "codeAt", "(I)I"⟩, 68) := ⟨⟨by decide +kernel, by decide +kernel⟩, List.mem_of_getElem? (i := 1051) (by decide +kernel), List.mem_of_getElem? (i := 1770) (by decide +kernel), List.mem_of_getElem? (i := 1771) (by decide +kernel)⟩
theorem lw_p117 : lw_okq (⟨"GalleyRoomModel", "sumOf", "(Z)J"⟩, 68) := ⟨⟨by decide +kernel, by decide +kernel⟩, List.mem_of_getElem? (i := 1051) (by decide +kernel), List.mem_of_getElem? (i := 1774) (by decide +kernel), List.mem_of_getElem? (i := 1775) (by decide +kernel)⟩
theorem lw_p118 : lw_okq (⟨"GalleyRoomModel", "termOf", "(Z)J"⟩, 68) := ⟨⟨by decide +kernel, by decide +kernel⟩, List.mem_of_getElem? (i := 1051) (by decide +kernel), List.mem_of_getElem? (i := 1778) (by decide +kernel), List.mem_of_getElem? (i := 1779) (by decide +kernel)⟩
theorem lw_p119 : lw_okq (⟨"GalleyRoomModel", "partOf", "(Z)J"⟩, 68) := ⟨⟨by decide +kernel, by decide +kernel⟩, List.mem_of_getElem? (i := 1051) (by decide +kernel), List.mem_of_getElem? (i := 1782) (by decide +kernel), List.mem_of_getElem? (i := 1783) (by decide +kernel)⟩
theorem lw_p120 : lw_okq (⟨"GalleyRoomModel", "passes0", "(I)Z"⟩, 68) := ⟨⟨by decide +kernel, by decide +kernel⟩, List.mem_of_getElem? (i := 1051) (by decide +kernel), List.mem_of_getElem? (i := 1786) (by decide +kernel), List.mem_of_getElem? (i := 1787) (by decide +kernel)⟩
theorem lw_p121 : lw_okq (⟨"GalleyRoomModel", "orderValue", "(II)I"⟩, 68) := ⟨⟨by decide +kernel, by decide +kernel⟩, List.mem_of_getElem? (i := 1051) (by decide +kernel), List.mem_of_getElem? (i := 1790) (by decide +kernel), List.mem_of_getElem? (i := 1791) (by decide +kernel)⟩
theorem lw_p122 : lw_okq (⟨"GalleyRoomModel", "testOf", "(Z)Z"⟩, 68) := ⟨⟨by decide +kernel, by decide +kernel⟩, List.mem_of_getElem? (i := 1051) (by decide +kernel), List.mem_of_getElem? (i := 1794) (by decide +kernel), List.mem_of_getElem? (i := 1795) (by decide +kernel)⟩
theorem lw_p123 : lw_okq (⟨"GalleyRoomModel", "bothOf", "(Z)Z"⟩, 68) := ⟨⟨by decide +kernel, by decide +kernel⟩, List.mem_of_getElem? (i := 1051) (by decide +kernel), List.mem_of_getElem? (i := 1798) (by decide +kernel), List.mem_of_getElem? (i := 1799) (by decide +kernel)⟩
theorem lw_p124 : lw_okq (⟨"GalleyRoomModel", "plainOf", "(Z)Z"⟩, 68) := ⟨⟨by decide +kernel, by decide +kernel⟩, List.mem_of_getElem? (i := 1051) (by decide +kernel), List.mem_of_getElem? (i := 1802) (by decide +kernel), List.mem_of_getElem? (i := 1803) (by decide +kernel)⟩
theorem lw_p125 : lw_okq (⟨"GalleyRoomModel", "positiveOf", "(Z)Z"⟩, 68) := ⟨⟨by decide +kernel, by decide +kernel⟩, List.mem_of_getElem? (i := 1051) (by decide +kernel), List.mem_of_getElem? (i := 1806) (by decide +kernel), List.mem_of_getElem? (i := 1807) (by decide +kernel)⟩
theorem lw_p126 : lw_okq (⟨"GalleyRoomModel", "obeys", "()I"⟩, 68) := ⟨⟨by decide +kernel, by decide +kernel⟩, List.mem_of_getElem? (i := 1051) (by decide +kernel), List.mem_of_getElem? (i := 1810) (by decide +kernel), List.mem_of_getElem? (i := 1811) (by decide +kernel)⟩
theorem lw_p127 : lw_okq (⟨"GalleyRoomModel", "takesBack", "(I)V"⟩, 68) := ⟨⟨by decide +kernel, by decide +kernel⟩, List.mem_of_getElem? (i := 1051) (by decide +kernel), List.mem_of_getElem? (i := 1818) (by decide +kernel), List.mem_of_getElem? (i := 1819) (by decide +kernel)⟩
def lw_privs_8 : List (MethodName × Nat) := [(⟨"GalleyRoomModel", "lays", "(I)V"⟩, 68), (⟨"GalleyRoomModel", "runs", "(I)Z"⟩, 68), (⟨"GalleyRoomModel", "goesAlong", "(IZ)V"⟩, 68), (⟨"GalleyRoomModel", "settingLines", "()I"⟩, 68), (⟨"GalleyRoomModel", "codeAt", "(I)I"⟩, 68), (⟨"GalleyRoomModel", "sumOf", "(Z)J"⟩, 68), (⟨"GalleyRoomModel", "termOf", "(Z)J"⟩, 68), (⟨"GalleyRoomModel", "partOf", "(Z)J"⟩, 68), (⟨"GalleyRoomModel", "passes0", "(I)Z"⟩, 68), (⟨"GalleyRoomModel", "orderValue", "(II)I"⟩, 68), (⟨"GalleyRoomModel", "testOf", "(Z)Z"⟩, 68), (⟨"GalleyRoomModel", "bothOf", "(Z)Z"⟩, 68), (⟨"GalleyRoomModel", "plainOf", "(Z)Z"⟩, 68), (⟨"GalleyRoomModel", "positiveOf", "(Z)Z"⟩, 68), (⟨"GalleyRoomModel", "obeys", "()I"⟩, 68), (⟨"GalleyRoomModel", "takesBack", "(I)V"⟩, 68)]
theorem lw_r8 : ∀ q ∈ lw_privs_8, lw_okq q := List.forall_mem_cons.mpr ⟨lw_p112, List.forall_mem_cons.mpr ⟨lw_p113, List.forall_mem_cons.mpr ⟨lw_p114, List.forall_mem_cons.mpr ⟨lw_p115, List.forall_mem_cons.mpr ⟨lw_p116, List.forall_mem_cons.mpr ⟨lw_p117, List.forall_mem_cons.mpr ⟨lw_p118, List.forall_mem_cons.mpr ⟨lw_p119, List.forall_mem_cons.mpr ⟨lw_p120, List.forall_mem_cons.mpr ⟨lw_p121, List.forall_mem_cons.mpr ⟨lw_p122, List.forall_mem_cons.mpr ⟨lw_p123, List.forall_mem_cons.mpr ⟨lw_p124, List.forall_mem_cons.mpr ⟨lw_p125, List.forall_mem_cons.mpr ⟨lw_p126, List.forall_mem_cons.mpr ⟨lw_p127, fun _ h => absurd h List.not_mem_nil⟩⟩⟩⟩⟩⟩⟩⟩⟩⟩⟩⟩⟩⟩⟩⟩
theorem lw_p128 : lw_okq (⟨"GalleyRoomModel", "drawnAct", "()V"⟩, 68) := ⟨⟨by decide +kernel, by decide +kernel⟩, List.mem_of_getElem? (i := 1051) (by decide +kernel), List.mem_of_getElem? (i := 1826) (by decide +kernel), List.mem_of_getElem? (i := 1827) (by decide +kernel)⟩
theorem lw_p129 : lw_okq (⟨"GalleyRoomModel", "draws", "(I)I"⟩, 68) := ⟨⟨by decide +kernel, by decide +kernel⟩, List.mem_of_getElem? (i := 1051) (by decide +kernel), List.mem_of_getElem? (i := 1830) (by decide +kernel), List.mem_of_getElem? (i := 1831) (by decide +kernel)⟩
def lw_privs_9 : List (MethodName × Nat) := [(⟨"GalleyRoomModel", "drawnAct", "()V"⟩, 68), (⟨"GalleyRoomModel", "draws", "(I)I"⟩, 68)]
theorem lw_r9 : ∀ q ∈ lw_privs_9, lw_okq q := List.forall_mem_cons.mpr ⟨lw_p128, List.forall_mem_cons.mpr ⟨lw_p129, fun _ h => absurd h List.not_mem_nil⟩⟩
def lw_privs : List (MethodName × Nat) := lw_privs_1 ++ (lw_privs_2 ++ (lw_privs_3 ++ (lw_privs_4 ++ (lw_privs_5 ++ (lw_privs_6 ++ (lw_privs_7 ++ (lw_privs_8 ++ (lw_privs_9))))))))
def lw_tbl : List Cond := k2_sels lw_privs ++ tables_1
theorem lw_privs_ok : ∀ q ∈ lw_privs, lw_okq q := by
  show ∀ q ∈ lw_privs_1 ++ (lw_privs_2 ++ (lw_privs_3 ++ (lw_privs_4 ++ (lw_privs_5 ++ (lw_privs_6 ++ (lw_privs_7 ++ (lw_privs_8 ++ (lw_privs_9)))))))), lw_okq q
  exact List.forall_mem_append.mpr ⟨lw_r1, List.forall_mem_append.mpr ⟨lw_r2, List.forall_mem_append.mpr ⟨lw_r3, List.forall_mem_append.mpr ⟨lw_r4, List.forall_mem_append.mpr ⟨lw_r5, List.forall_mem_append.mpr ⟨lw_r6, List.forall_mem_append.mpr ⟨lw_r7, List.forall_mem_append.mpr ⟨lw_r8, lw_r9⟩⟩⟩⟩⟩⟩⟩⟩

def RX0 : String := "GalleyRoom$Desk"
def TX0 : u_T := fun k => match k with
  | 0 => ("GalleyRoom$Desk", "galley", "LGalleyRoom$Galley;", true)
  | 1 => ("GalleyRoom$Desk", "log", "LGalleyRoom$Log;", true)
  | 2 => ("GalleyRoom$Desk", "sheet", "LGalleyRoom$Sheet;", true)
  | 3 => ("GalleyRoom$Desk", "machine", "LGalleyRoom$Machine;", true)
  | 4 => ("GalleyRoom$Desk", "galleyAhead", "LGalleyRoom$Galley;", true)
  | 5 => ("GalleyRoom$Desk", "logAhead", "LGalleyRoom$Log;", true)
  | 6 => ("GalleyRoom$Desk", "facts", "[I", true)
  | 7 => ("GalleyRoom$Desk", "latestTold", "I", false)
  | _ => ("GalleyRoom$Desk", "done", "I", false)
def tyX0 : Nat → FieldType := fun k => match k with
  | 0 => .object "GalleyRoom$Galley"
  | 1 => .object "GalleyRoom$Log"
  | 2 => .object "GalleyRoom$Sheet"
  | 3 => .object "GalleyRoom$Machine"
  | 4 => .object "GalleyRoom$Galley"
  | 5 => .object "GalleyRoom$Log"
  | 6 => .array .int
  | 7 => .int
  | _ => .int
abbrev wsX00 : List Cond := u_ws RX0 TX0 9
theorem nmX0 : ∀ a, a < 9 → ∀ b, b < 9 → a ≠ b → (TX0 a).2.1 ≠ (TX0 b).2.1 := by decide +kernel
theorem tyX0_ok : ∀ k, k < 9 → parseFieldDescriptor (TX0 k).2.2.1 = some (tyX0 k) := by decide +kernel
abbrev cX0_init : ByteArray := prog_2_method_1_code
def yX0_init : MethodName := ⟨RX0, "<init>", "()V"⟩
abbrev cX0_attempt : ByteArray := prog_2_method_2_code
def yX0_attempt : MethodName := ⟨RX0, "attempt", "(III)I"⟩
abbrev cX0_begin : ByteArray := prog_2_method_3_code
def yX0_begin : MethodName := ⟨RX0, "begin", "()V"⟩
abbrev cX0_giveUp : ByteArray := prog_2_method_4_code
def yX0_giveUp : MethodName := ⟨RX0, "giveUp", "()V"⟩
abbrev cX0_runOnce : ByteArray := prog_2_method_5_code
def yX0_runOnce : MethodName := ⟨RX0, "runOnce", "(LGalleyRoom$Text;I)Z"⟩
abbrev cX0_gatherOrderFacts : ByteArray := prog_2_method_6_code
def yX0_gatherOrderFacts : MethodName := ⟨RX0, "gatherOrderFacts", "()V"⟩
abbrev cX0_endsOf : ByteArray := prog_2_method_7_code
def yX0_endsOf : MethodName := ⟨RX0, "endsOf", "(I)I"⟩
def RX1 : String := "GalleyRoom$Galley"
def TX1 : u_T := fun k => match k with
  | 0 => ("GalleyRoom$Galley", "wide", "[I", true)
  | 1 => ("GalleyRoom$Galley", "splits", "[I", true)
  | 2 => ("GalleyRoom$Galley", "kind", "[I", true)
  | 3 => ("GalleyRoom$Galley", "terms", "[I", true)
  | 4 => ("GalleyRoom$Galley", "seenFact", "[I", true)
  | 5 => ("GalleyRoom$Galley", "seenNumber", "[I", true)
  | 6 => ("GalleyRoom$Galley", "law", "[LGalleyRoom$Text;", true)
  | 7 => ("GalleyRoom$Galley", "words", "I", false)
  | 8 => ("GalleyRoom$Galley", "endBits", "I", false)
  | 9 => ("GalleyRoom$Galley", "splitBits", "I", false)
  | 10 => ("GalleyRoom$Galley", "seen", "I", false)
  | 11 => ("GalleyRoom$Galley", "laws", "I", false)
  | _ => ("GalleyRoom$Galley", "force", "I", false)
def tyX1 : Nat → FieldType := fun k => match k with
  | 0 => .array .int
  | 1 => .array .int
  | 2 => .array .int
  | 3 => .array .int
  | 4 => .array .int
  | 5 => .array .int
  | 6 => .array (.object "GalleyRoom$Text")
  | 7 => .int
  | 8 => .int
  | 9 => .int
  | 10 => .int
  | 11 => .int
  | _ => .int
abbrev wsX10 : List Cond := u_ws RX1 TX1 13
theorem nmX1 : ∀ a, a < 13 → ∀ b, b < 13 → a ≠ b → (TX1 a).2.1 ≠ (TX1 b).2.1 := by decide +kernel
theorem tyX1_ok : ∀ k, k < 13 → parseFieldDescriptor (TX1 k).2.2.1 = some (tyX1 k) := by decide +kernel
abbrev cX1_init : ByteArray := prog_3_method_1_code
def yX1_init : MethodName := ⟨RX1, "<init>", "()V"⟩
abbrev cX1_copyFrom : ByteArray := prog_3_method_2_code
def yX1_copyFrom : MethodName := ⟨RX1, "copyFrom", "(LGalleyRoom$Galley;)V"⟩
abbrev cX1_has : ByteArray := prog_3_method_3_code
def yX1_has : MethodName := ⟨RX1, "has", "(I)Z"⟩
abbrev cX1_wideOf : ByteArray := prog_3_method_4_code
def yX1_wideOf : MethodName := ⟨RX1, "wideOf", "(I)I"⟩
abbrev cX1_canBeSplit : ByteArray := prog_3_method_5_code
def yX1_canBeSplit : MethodName := ⟨RX1, "canBeSplit", "(I)Z"⟩
abbrev cX1_isSplit : ByteArray := prog_3_method_6_code
def yX1_isSplit : MethodName := ⟨RX1, "isSplit", "(I)Z"⟩
abbrev cX1_endsAfter : ByteArray := prog_3_method_7_code
def yX1_endsAfter : MethodName := ⟨RX1, "endsAfter", "(I)Z"⟩
abbrev cX1_endsAt : ByteArray := prog_3_method_8_code
def yX1_endsAt : MethodName := ⟨RX1, "endsAt", "(I)Z"⟩
abbrev cX1_canEndAt : ByteArray := prog_3_method_9_code
def yX1_canEndAt : MethodName := ⟨RX1, "canEndAt", "(I)Z"⟩
abbrev cX1_pieceOf : ByteArray := prog_3_method_10_code
def yX1_pieceOf : MethodName := ⟨RX1, "pieceOf", "(III)I"⟩
abbrev cX1_addWord : ByteArray := prog_3_method_11_code
def yX1_addWord : MethodName := ⟨RX1, "addWord", "(III)V"⟩
abbrev cX1_dropWord : ByteArray := prog_3_method_12_code
def yX1_dropWord : MethodName := ⟨RX1, "dropWord", "(I)V"⟩
abbrev cX1_canForce : ByteArray := prog_3_method_13_code
def yX1_canForce : MethodName := ⟨RX1, "canForce", "(I)Z"⟩
abbrev cX1_lawOf : ByteArray := prog_3_method_14_code
def yX1_lawOf : MethodName := ⟨RX1, "lawOf", "(I)LGalleyRoom$Text;"⟩
abbrev cX1_lawInForce : ByteArray := prog_3_method_15_code
def yX1_lawInForce : MethodName := ⟨RX1, "lawInForce", "()LGalleyRoom$Text;"⟩
abbrev cX1_whyNot : ByteArray := prog_3_method_16_code
def yX1_whyNot : MethodName := ⟨RX1, "whyNot", "(III)I"⟩
abbrev cX1_carryOutIfItCanBe : ByteArray := prog_3_method_17_code
def yX1_carryOutIfItCanBe : MethodName := ⟨RX1, "carryOutIfItCanBe", "(III)V"⟩
def RX2 : String := "GalleyRoom$Line"
def TX2 : u_T := fun k => match k with
  | 0 => ("GalleyRoom$Line", "facts", "[I", true)
  | 1 => ("GalleyRoom$Line", "machine", "LGalleyRoom$Machine;", true)
  | 2 => ("GalleyRoom$Line", "to", "I", false)
  | 3 => ("GalleyRoom$Line", "width", "I", false)
  | 4 => ("GalleyRoom$Line", "pieces", "I", false)
  | 5 => ("GalleyRoom$Line", "costs", "I", false)
  | 6 => ("GalleyRoom$Line", "pays", "I", false)
  | 7 => ("GalleyRoom$Line", "barred", "Z", false)
  | _ => ("GalleyRoom$Line", "fits", "Z", false)
def tyX2 : Nat → FieldType := fun k => match k with
  | 0 => .array .int
  | 1 => .object "GalleyRoom$Machine"
  | 2 => .int
  | 3 => .int
  | 4 => .int
  | 5 => .int
  | 6 => .int
  | 7 => .boolean
  | _ => .boolean
abbrev wsX20 : List Cond := u_ws RX2 TX2 9
theorem nmX2 : ∀ a, a < 9 → ∀ b, b < 9 → a ≠ b → (TX2 a).2.1 ≠ (TX2 b).2.1 := by decide +kernel
theorem tyX2_ok : ∀ k, k < 9 → parseFieldDescriptor (TX2 k).2.2.1 = some (tyX2 k) := by decide +kernel
abbrev cX2_init : ByteArray := prog_4_method_1_code
def yX2_init : MethodName := ⟨RX2, "<init>", "()V"⟩
abbrev cX2_measureUp : ByteArray := prog_4_method_2_code
def yX2_measureUp : MethodName := ⟨RX2, "measureUp", "(LGalleyRoom$Galley;II)V"⟩
abbrev cX2_judge : ByteArray := prog_4_method_3_code
def yX2_judge : MethodName := ⟨RX2, "judge", "(LGalleyRoom$Galley;LGalleyRoom$Text;IIZ)V"⟩
abbrev cX2_gatherFacts : ByteArray := prog_4_method_4_code
def yX2_gatherFacts : MethodName := ⟨RX2, "gatherFacts", "(LGalleyRoom$Galley;II)V"⟩
def RX3 : String := "GalleyRoom$Log"
def TX3 : u_T := fun k => match k with
  | 0 => ("GalleyRoom$Log", "verb", "[I", true)
  | 1 => ("GalleyRoom$Log", "word", "[I", true)
  | 2 => ("GalleyRoom$Log", "wasWide", "[I", true)
  | _ => ("GalleyRoom$Log", "held", "I", false)
def tyX3 : Nat → FieldType := fun k => match k with
  | 0 => .array .int
  | 1 => .array .int
  | 2 => .array .int
  | _ => .int
abbrev wsX30 : List Cond := u_ws RX3 TX3 4
theorem nmX3 : ∀ a, a < 4 → ∀ b, b < 4 → a ≠ b → (TX3 a).2.1 ≠ (TX3 b).2.1 := by decide +kernel
theorem tyX3_ok : ∀ k, k < 4 → parseFieldDescriptor (TX3 k).2.2.1 = some (tyX3 k) := by decide +kernel
abbrev cX3_init : ByteArray := prog_5_method_1_code
def yX3_init : MethodName := ⟨RX3, "<init>", "()V"⟩
abbrev cX3_copyFrom : ByteArray := prog_5_method_2_code
def yX3_copyFrom : MethodName := ⟨RX3, "copyFrom", "(LGalleyRoom$Log;)V"⟩
abbrev cX3_note : ByteArray := prog_5_method_3_code
def yX3_note : MethodName := ⟨RX3, "note", "(III)V"⟩
abbrev cX3_dropOldest : ByteArray := prog_5_method_4_code
def yX3_dropOldest : MethodName := ⟨RX3, "dropOldest", "()V"⟩
abbrev cX3_takeBack : ByteArray := prog_5_method_5_code
def yX3_takeBack : MethodName := ⟨RX3, "takeBack", "(LGalleyRoom$Galley;)I"⟩
def RX4 : String := "GalleyRoom$Machine"
def TX4 : u_T := fun k => match k with
  | 0 => ("GalleyRoom$Machine", "stack", "[J", true)
  | _ => ("GalleyRoom$Machine", "broken", "Z", false)
def tyX4 : Nat → FieldType := fun k => match k with
  | 0 => .array .long
  | _ => .boolean
abbrev wsX40 : List Cond := u_ws RX4 TX4 2
theorem nmX4 : ∀ a, a < 2 → ∀ b, b < 2 → a ≠ b → (TX4 a).2.1 ≠ (TX4 b).2.1 := by decide +kernel
theorem tyX4_ok : ∀ k, k < 2 → parseFieldDescriptor (TX4 k).2.2.1 = some (tyX4 k) := by decide +kernel
abbrev cX4_init : ByteArray := prog_6_method_1_code
def yX4_init : MethodName := ⟨RX4, "<init>", "()V"⟩
abbrev cX4_valueOf : ByteArray := prog_6_method_2_code
def yX4_valueOf : MethodName := ⟨RX4, "valueOf", "(LGalleyRoom$Text;I[I)J"⟩
abbrev cX4_combine : ByteArray := prog_6_method_3_code
def yX4_combine : MethodName := ⟨RX4, "combine", "(IJJ)J"⟩
def RX5 : String := "GalleyRoom$Paper"
def TX5 : u_T := fun k => match k with
  | 0 => ("GalleyRoom$Paper", "costs", "[I", true)
  | 1 => ("GalleyRoom$Paper", "pays", "[I", true)
  | 2 => ("GalleyRoom$Paper", "ends", "[I", true)
  | 3 => ("GalleyRoom$Paper", "reached", "[J", true)
  | 4 => ("GalleyRoom$Paper", "line", "LGalleyRoom$Line;", true)
  | _ => ("GalleyRoom$Paper", "lastPlace", "I", false)
def tyX5 : Nat → FieldType := fun k => match k with
  | 0 => .array .int
  | 1 => .array .int
  | 2 => .array .int
  | 3 => .array .long
  | 4 => .object "GalleyRoom$Line"
  | _ => .int
abbrev wsX50 : List Cond := u_ws RX5 TX5 6
theorem nmX5 : ∀ a, a < 6 → ∀ b, b < 6 → a ≠ b → (TX5 a).2.1 ≠ (TX5 b).2.1 := by decide +kernel
theorem tyX5_ok : ∀ k, k < 6 → parseFieldDescriptor (TX5 k).2.2.1 = some (tyX5 k) := by decide +kernel
abbrev cX5_init : ByteArray := prog_7_method_1_code
def yX5_init : MethodName := ⟨RX5, "<init>", "()V"⟩
abbrev cX5_layOut : ByteArray := prog_7_method_2_code
def yX5_layOut : MethodName := ⟨RX5, "layOut", "(LGalleyRoom$Galley;LGalleyRoom$Text;IZ)V"⟩
abbrev cX5_layLine : ByteArray := prog_7_method_3_code
def yX5_layLine : MethodName := ⟨RX5, "layLine", "(LGalleyRoom$Galley;LGalleyRoom$Text;IIZ)V"⟩
abbrev cX5_join : ByteArray := prog_7_method_4_code
def yX5_join : MethodName := ⟨RX5, "join", "(II)V"⟩
abbrev cX5_isBetter : ByteArray := prog_7_method_5_code
def yX5_isBetter : MethodName := ⟨RX5, "isBetter", "(III)Z"⟩
abbrev cX5_slot : ByteArray := prog_7_method_6_code
def yX5_slot : MethodName := ⟨RX5, "slot", "(II)I"⟩
abbrev cX5_canBeOf : ByteArray := prog_7_method_7_code
def yX5_canBeOf : MethodName := ⟨RX5, "canBeOf", "(I)Z"⟩
abbrev cX5_canBeOfAtMost : ByteArray := prog_7_method_8_code
def yX5_canBeOfAtMost : MethodName := ⟨RX5, "canBeOfAtMost", "(I)Z"⟩
abbrev cX5_leastOfJust : ByteArray := prog_7_method_9_code
def yX5_leastOfJust : MethodName := ⟨RX5, "leastOfJust", "(I)I"⟩
abbrev cX5_bestSlot : ByteArray := prog_7_method_10_code
def yX5_bestSlot : MethodName := ⟨RX5, "bestSlot", "()I"⟩
abbrev cX5_bestCosts : ByteArray := prog_7_method_11_code
def yX5_bestCosts : MethodName := ⟨RX5, "bestCosts", "()I"⟩
abbrev cX5_bestPlace : ByteArray := prog_7_method_12_code
def yX5_bestPlace : MethodName := ⟨RX5, "bestPlace", "(I)I"⟩
abbrev cX5_waysInAll : ByteArray := prog_7_method_13_code
def yX5_waysInAll : MethodName := ⟨RX5, "waysInAll", "()J"⟩
abbrev cX5_mostPaid : ByteArray := prog_7_method_14_code
def yX5_mostPaid : MethodName := ⟨RX5, "mostPaid", "()I"⟩
def RX6 : String := "GalleyRoom$Reader"
def TX6 : u_T := fun k => match k with
  | 0 => ("GalleyRoom$Reader", "draft", "LGalleyRoom$Text;", true)
  | 1 => ("GalleyRoom$Reader", "signs", "[I", true)
  | 2 => ("GalleyRoom$Reader", "places", "[I", true)
  | 3 => ("GalleyRoom$Reader", "at", "I", false)
  | 4 => ("GalleyRoom$Reader", "parts", "I", false)
  | 5 => ("GalleyRoom$Reader", "asOrders", "Z", false)
  | _ => ("GalleyRoom$Reader", "faultAt", "I", false)
def tyX6 : Nat → FieldType := fun k => match k with
  | 0 => .object "GalleyRoom$Text"
  | 1 => .array .int
  | 2 => .array .int
  | 3 => .int
  | 4 => .int
  | 5 => .boolean
  | _ => .int
abbrev wsX60 : List Cond := u_ws RX6 TX6 7
theorem nmX6 : ∀ a, a < 7 → ∀ b, b < 7 → a ≠ b → (TX6 a).2.1 ≠ (TX6 b).2.1 := by decide +kernel
theorem tyX6_ok : ∀ k, k < 7 → parseFieldDescriptor (TX6 k).2.2.1 = some (tyX6 k) := by decide +kernel
abbrev cX6_init : ByteArray := prog_8_method_1_code
def yX6_init : MethodName := ⟨RX6, "<init>", "()V"⟩
abbrev cX6_readText : ByteArray := prog_8_method_2_code
def yX6_readText : MethodName := ⟨RX6, "readText", "([BIZ)V"⟩
abbrev cX6_cut : ByteArray := prog_8_method_3_code
def yX6_cut : MethodName := ⟨RX6, "cut", "([BI)V"⟩
abbrev cX6_sortOf : ByteArray := prog_8_method_4_code
def yX6_sortOf : MethodName := ⟨RX6, "sortOf", "(B)I"⟩
abbrev cX6_wordOf : ByteArray := prog_8_method_5_code
def yX6_wordOf : MethodName := ⟨RX6, "wordOf", "([BII)I"⟩
abbrev cX6_numberOf : ByteArray := prog_8_method_6_code
def yX6_numberOf : MethodName := ⟨RX6, "numberOf", "([BII)I"⟩
abbrev cX6_sign : ByteArray := prog_8_method_7_code
def yX6_sign : MethodName := ⟨RX6, "sign", "()I"⟩
abbrev cX6_failHere : ByteArray := prog_8_method_8_code
def yX6_failHere : MethodName := ⟨RX6, "failHere", "()Z"⟩
abbrev cX6_take : ByteArray := prog_8_method_9_code
def yX6_take : MethodName := ⟨RX6, "take", "(I)Z"⟩
abbrev cX6_takeOrFail : ByteArray := prog_8_method_10_code
def yX6_takeOrFail : MethodName := ⟨RX6, "takeOrFail", "(I)Z"⟩
abbrev cX6_takeFrom : ByteArray := prog_8_method_11_code
def yX6_takeFrom : MethodName := ⟨RX6, "takeFrom", "(II)I"⟩
abbrev cX6_readClause : ByteArray := prog_8_method_12_code
def yX6_readClause : MethodName := ⟨RX6, "readClause", "(I)Z"⟩
abbrev cX6_readRule : ByteArray := prog_8_method_13_code
def yX6_readRule : MethodName := ⟨RX6, "readRule", "(I)Z"⟩
abbrev cX6_readOrder : ByteArray := prog_8_method_14_code
def yX6_readOrder : MethodName := ⟨RX6, "readOrder", "(I)Z"⟩
abbrev cX6_readTest : ByteArray := prog_8_method_15_code
def yX6_readTest : MethodName := ⟨RX6, "readTest", "(I)Z"⟩
abbrev cX6_readBoth : ByteArray := prog_8_method_16_code
def yX6_readBoth : MethodName := ⟨RX6, "readBoth", "(I)Z"⟩
abbrev cX6_readPlain : ByteArray := prog_8_method_17_code
def yX6_readPlain : MethodName := ⟨RX6, "readPlain", "(I)Z"⟩
abbrev cX6_readBracketed : ByteArray := prog_8_method_18_code
def yX6_readBracketed : MethodName := ⟨RX6, "readBracketed", "(I)Z"⟩
abbrev cX6_readComparison : ByteArray := prog_8_method_19_code
def yX6_readComparison : MethodName := ⟨RX6, "readComparison", "(I)Z"⟩
abbrev cX6_readSum : ByteArray := prog_8_method_20_code
def yX6_readSum : MethodName := ⟨RX6, "readSum", "(I)Z"⟩
abbrev cX6_readTerm : ByteArray := prog_8_method_21_code
def yX6_readTerm : MethodName := ⟨RX6, "readTerm", "(I)Z"⟩
abbrev cX6_instructionOf : ByteArray := prog_8_method_22_code
def yX6_instructionOf : MethodName := ⟨RX6, "instructionOf", "(I)I"⟩
abbrev cX6_readPart : ByteArray := prog_8_method_23_code
def yX6_readPart : MethodName := ⟨RX6, "readPart", "(I)Z"⟩
abbrev cX6_takeLawFact : ByteArray := prog_8_method_24_code
def yX6_takeLawFact : MethodName := ⟨RX6, "takeLawFact", "()I"⟩
abbrev cX6_takeOrderFact : ByteArray := prog_8_method_25_code
def yX6_takeOrderFact : MethodName := ⟨RX6, "takeOrderFact", "()I"⟩
def RX7 : String := "GalleyRoom$Sheet"
def TX7 : u_T := fun k => match k with
  | 0 => ("GalleyRoom$Sheet", "told", "[[I", true)
  | 1 => ("GalleyRoom$Sheet", "above", "[I", false)
  | 2 => ("GalleyRoom$Sheet", "below", "[I", false)
  | 3 => ("GalleyRoom$Sheet", "line", "LGalleyRoom$Line;", true)
  | _ => ("GalleyRoom$Sheet", "lines", "I", false)
def tyX7 : Nat → FieldType := fun k => match k with
  | 0 => .array (.array .int)
  | 1 => .array .int
  | 2 => .array .int
  | 3 => .object "GalleyRoom$Line"
  | _ => .int
abbrev wsX70 : List Cond := u_ws RX7 TX7 5
theorem nmX7 : ∀ a, a < 5 → ∀ b, b < 5 → a ≠ b → (TX7 a).2.1 ≠ (TX7 b).2.1 := by decide +kernel
theorem tyX7_ok : ∀ k, k < 5 → parseFieldDescriptor (TX7 k).2.2.1 = some (tyX7 k) := by decide +kernel
abbrev cX7_init : ByteArray := prog_9_method_1_code
def yX7_init : MethodName := ⟨RX7, "<init>", "()V"⟩
abbrev cX7_readSetting : ByteArray := prog_9_method_2_code
def yX7_readSetting : MethodName := ⟨RX7, "readSetting", "(LGalleyRoom$Galley;)V"⟩
abbrev cX7_writeDown : ByteArray := prog_9_method_3_code
def yX7_writeDown : MethodName := ⟨RX7, "writeDown", "(I)V"⟩
abbrev cX7_tellOf : ByteArray := prog_9_method_4_code
def yX7_tellOf : MethodName := ⟨RX7, "tellOf", "(II)I"⟩
abbrev cX7_together : ByteArray := prog_9_method_5_code
def yX7_together : MethodName := ⟨RX7, "together", "(I)I"⟩
abbrev cX7_howManyFit : ByteArray := prog_9_method_6_code
def yX7_howManyFit : MethodName := ⟨RX7, "howManyFit", "(LGalleyRoom$Galley;)I"⟩
abbrev cX7_linesAsSeen : ByteArray := prog_9_method_7_code
def yX7_linesAsSeen : MethodName := ⟨RX7, "linesAsSeen", "(LGalleyRoom$Galley;)I"⟩
abbrev cX7_isAsSeen : ByteArray := prog_9_method_8_code
def yX7_isAsSeen : MethodName := ⟨RX7, "isAsSeen", "(LGalleyRoom$Galley;I)Z"⟩
abbrev cX7_tellFact : ByteArray := prog_9_method_9_code
def yX7_tellFact : MethodName := ⟨RX7, "tellFact", "(II)I"⟩
abbrev cX7_mostAlike : ByteArray := prog_9_method_10_code
def yX7_mostAlike : MethodName := ⟨RX7, "mostAlike", "(II)I"⟩
abbrev cX7_longestRiver : ByteArray := prog_9_method_11_code
def yX7_longestRiver : MethodName := ⟨RX7, "longestRiver", "(LGalleyRoom$Galley;)I"⟩
abbrev cX7_flowThrough : ByteArray := prog_9_method_12_code
def yX7_flowThrough : MethodName := ⟨RX7, "flowThrough", "(LGalleyRoom$Galley;II)I"⟩
def RX8 : String := "GalleyRoom$Text"
def TX8 : u_T := fun k => match k with
  | 0 => ("GalleyRoom$Text", "verb", "[I", true)
  | 1 => ("GalleyRoom$Text", "times", "[I", true)
  | 2 => ("GalleyRoom$Text", "firstSum", "[I", true)
  | 3 => ("GalleyRoom$Text", "secondSum", "[I", true)
  | 4 => ("GalleyRoom$Text", "test", "[I", true)
  | 5 => ("GalleyRoom$Text", "code", "[I", true)
  | 6 => ("GalleyRoom$Text", "clauses", "I", false)
  | 7 => ("GalleyRoom$Text", "size", "I", false)
  | _ => ("GalleyRoom$Text", "asksLine", "Z", false)
def tyX8 : Nat → FieldType := fun k => match k with
  | 0 => .array .int
  | 1 => .array .int
  | 2 => .array .int
  | 3 => .array .int
  | 4 => .array .int
  | 5 => .array .int
  | 6 => .int
  | 7 => .int
  | _ => .boolean
abbrev wsX80 : List Cond := u_ws RX8 TX8 9
theorem nmX8 : ∀ a, a < 9 → ∀ b, b < 9 → a ≠ b → (TX8 a).2.1 ≠ (TX8 b).2.1 := by decide +kernel
theorem tyX8_ok : ∀ k, k < 9 → parseFieldDescriptor (TX8 k).2.2.1 = some (tyX8 k) := by decide +kernel
abbrev cX8_init : ByteArray := prog_10_method_1_code
def yX8_init : MethodName := ⟨RX8, "<init>", "(I)V"⟩
abbrev cX8_trimmed : ByteArray := prog_10_method_2_code
def yX8_trimmed : MethodName := ⟨RX8, "trimmed", "()LGalleyRoom$Text;"⟩
abbrev cX8_clear : ByteArray := prog_10_method_3_code
def yX8_clear : MethodName := ⟨RX8, "clear", "()V"⟩
abbrev cX8_emit : ByteArray := prog_10_method_4_code
def yX8_emit : MethodName := ⟨RX8, "emit", "(II)V"⟩
abbrev cX8_aim : ByteArray := prog_10_method_5_code
def yX8_aim : MethodName := ⟨RX8, "aim", "(I)V"⟩
def RX9 : String := "GalleyRoom"
def TX9 : u_T := fun k => match k with
  | 0 => ("GalleyRoom", "desk", "LGalleyRoom$Desk;", true)
  | 1 => ("GalleyRoom", "now", "LGalleyRoom$Galley;", true)
  | 2 => ("GalleyRoom", "paperGalley", "LGalleyRoom$Galley;", true)
  | 3 => ("GalleyRoom", "weeksGalley", "LGalleyRoom$Galley;", true)
  | 4 => ("GalleyRoom", "images", "[LGalleyRoom$Galley;", true)
  | 5 => ("GalleyRoom", "imageKept", "[Z", true)
  | 6 => ("GalleyRoom", "tape", "[B", true)
  | 7 => ("GalleyRoom", "reader", "LGalleyRoom$Reader;", true)
  | 8 => ("GalleyRoom", "log", "LGalleyRoom$Log;", true)
  | 9 => ("GalleyRoom", "sheet", "LGalleyRoom$Sheet;", true)
  | 10 => ("GalleyRoom", "paper", "LGalleyRoom$Paper;", true)
  | 11 => ("GalleyRoom", "slipped", "[J", true)
  | 12 => ("GalleyRoom", "refusals", "[I", true)
  | 13 => ("GalleyRoom", "tapeBytes", "I", false)
  | 14 => ("GalleyRoom", "turnedCount", "I", false)
  | 15 => ("GalleyRoom", "stoppedClause", "I", false)
  | _ => ("GalleyRoom", "latestRefusal", "I", false)
def tyX9 : Nat → FieldType := fun k => match k with
  | 0 => .object "GalleyRoom$Desk"
  | 1 => .object "GalleyRoom$Galley"
  | 2 => .object "GalleyRoom$Galley"
  | 3 => .object "GalleyRoom$Galley"
  | 4 => .array (.object "GalleyRoom$Galley")
  | 5 => .array .boolean
  | 6 => .array .byte
  | 7 => .object "GalleyRoom$Reader"
  | 8 => .object "GalleyRoom$Log"
  | 9 => .object "GalleyRoom$Sheet"
  | 10 => .object "GalleyRoom$Paper"
  | 11 => .array .long
  | 12 => .array .int
  | 13 => .int
  | 14 => .int
  | 15 => .int
  | _ => .int
abbrev wsX90 : List Cond := u_ws RX9 TX9 17
theorem nmX9 : ∀ a, a < 17 → ∀ b, b < 17 → a ≠ b → (TX9 a).2.1 ≠ (TX9 b).2.1 := by decide +kernel
theorem tyX9_ok : ∀ k, k < 17 → parseFieldDescriptor (TX9 k).2.2.1 = some (tyX9 k) := by decide +kernel
abbrev cX9_init : ByteArray := prog_1_method_1_code
def yX9_init : MethodName := ⟨RX9, "<init>", "()V"⟩
abbrev cX9_word : ByteArray := prog_1_method_2_code
def yX9_word : MethodName := ⟨RX9, "word", "(III)I"⟩
abbrev cX9_of : ByteArray := prog_1_method_3_code
def yX9_of : MethodName := ⟨RX9, "of", "(II)I"⟩
abbrev cX9_line : ByteArray := prog_1_method_4_code
def yX9_line : MethodName := ⟨RX9, "line", "(II)I"⟩
abbrev cX9_all : ByteArray := prog_1_method_5_code
def yX9_all : MethodName := ⟨RX9, "all", "(I)I"⟩
abbrev cX9_terms : ByteArray := prog_1_method_6_code
def yX9_terms : MethodName := ⟨RX9, "terms", "(II)I"⟩
abbrev cX9_feed : ByteArray := prog_1_method_7_code
def yX9_feed : MethodName := ⟨RX9, "feed", "(IIIII)I"⟩
abbrev cX9_end : ByteArray := prog_1_method_8_code
def yX9_end : MethodName := ⟨RX9, "end", "(I)I"⟩
abbrev cX9_row : ByteArray := prog_1_method_9_code
def yX9_row : MethodName := ⟨RX9, "row", "()I"⟩
abbrev cX9_turned : ByteArray := prog_1_method_10_code
def yX9_turned : MethodName := ⟨RX9, "turned", "()I"⟩
abbrev cX9_law : ByteArray := prog_1_method_11_code
def yX9_law : MethodName := ⟨RX9, "law", "()I"⟩
abbrev cX9_orders : ByteArray := prog_1_method_12_code
def yX9_orders : MethodName := ⟨RX9, "orders", "()I"⟩
abbrev cX9_fault : ByteArray := prog_1_method_13_code
def yX9_fault : MethodName := ⟨RX9, "fault", "()I"⟩
abbrev cX9_stopped : ByteArray := prog_1_method_14_code
def yX9_stopped : MethodName := ⟨RX9, "stopped", "()I"⟩
abbrev cX9_force : ByteArray := prog_1_method_15_code
def yX9_force : MethodName := ⟨RX9, "force", "(I)I"⟩
abbrev cX9_stop : ByteArray := prog_1_method_16_code
def yX9_stop : MethodName := ⟨RX9, "stop", "(I)I"⟩
abbrev cX9_split : ByteArray := prog_1_method_17_code
def yX9_split : MethodName := ⟨RX9, "split", "(I)I"⟩
abbrev cX9_swell : ByteArray := prog_1_method_18_code
def yX9_swell : MethodName := ⟨RX9, "swell", "(II)I"⟩
abbrev cX9_pass : ByteArray := prog_1_method_19_code
def yX9_pass : MethodName := ⟨RX9, "pass", "()I"⟩
abbrev cX9_undo : ByteArray := prog_1_method_20_code
def yX9_undo : MethodName := ⟨RX9, "undo", "()I"⟩
abbrev cX9_best : ByteArray := prog_1_method_21_code
def yX9_best : MethodName := ⟨RX9, "best", "(I)I"⟩
abbrev cX9_just : ByteArray := prog_1_method_22_code
def yX9_just : MethodName := ⟨RX9, "just", "(I)I"⟩
abbrev cX9_fewest : ByteArray := prog_1_method_23_code
def yX9_fewest : MethodName := ⟨RX9, "fewest", "()I"⟩
abbrev cX9_most : ByteArray := prog_1_method_24_code
def yX9_most : MethodName := ⟨RX9, "most", "()I"⟩
abbrev cX9_ways : ByteArray := prog_1_method_25_code
def yX9_ways : MethodName := ⟨RX9, "ways", "()J"⟩
abbrev cX9_richest : ByteArray := prog_1_method_26_code
def yX9_richest : MethodName := ⟨RX9, "richest", "()I"⟩
abbrev cX9_narrow : ByteArray := prog_1_method_27_code
def yX9_narrow : MethodName := ⟨RX9, "narrow", "(I)I"⟩
abbrev cX9_leaveOut : ByteArray := prog_1_method_28_code
def yX9_leaveOut : MethodName := ⟨RX9, "leaveOut", "(I)I"⟩
abbrev cX9_river : ByteArray := prog_1_method_29_code
def yX9_river : MethodName := ⟨RX9, "river", "()I"⟩
abbrev cX9_seen : ByteArray := prog_1_method_30_code
def yX9_seen : MethodName := ⟨RX9, "seen", "(II)I"⟩
abbrev cX9_forget : ByteArray := prog_1_method_31_code
def yX9_forget : MethodName := ⟨RX9, "forget", "()I"⟩
abbrev cX9_canBe : ByteArray := prog_1_method_32_code
def yX9_canBe : MethodName := ⟨RX9, "canBe", "()I"⟩
abbrev cX9_look : ByteArray := prog_1_method_33_code
def yX9_look : MethodName := ⟨RX9, "look", "(I)I"⟩
abbrev cX9_few : ByteArray := prog_1_method_34_code
def yX9_few : MethodName := ⟨RX9, "few", "(II)J"⟩
abbrev cX9_compare : ByteArray := prog_1_method_35_code
def yX9_compare : MethodName := ⟨RX9, "compare", "(I)I"⟩
abbrev cX9_weeks : ByteArray := prog_1_method_36_code
def yX9_weeks : MethodName := ⟨RX9, "weeks", "(II)I"⟩
abbrev cX9_drawn : ByteArray := prog_1_method_37_code
def yX9_drawn : MethodName := ⟨RX9, "drawn", "(II)I"⟩
abbrev cX9_image : ByteArray := prog_1_method_38_code
def yX9_image : MethodName := ⟨RX9, "image", "(I)I"⟩
abbrev cX9_back : ByteArray := prog_1_method_39_code
def yX9_back : MethodName := ⟨RX9, "back", "(I)I"⟩
abbrev cX9_count : ByteArray := prog_1_method_40_code
def yX9_count : MethodName := ⟨RX9, "count", "(I)I"⟩
abbrev cX9_status : ByteArray := prog_1_method_41_code
def yX9_status : MethodName := ⟨RX9, "status", "()I"⟩
abbrev cX9_answer : ByteArray := prog_1_method_42_code
def yX9_answer : MethodName := ⟨RX9, "answer", "(I)I"⟩
abbrev cX9_refuse : ByteArray := prog_1_method_43_code
def yX9_refuse : MethodName := ⟨RX9, "refuse", "(I)I"⟩
abbrev cX9_canBeWord : ByteArray := prog_1_method_44_code
def yX9_canBeWord : MethodName := ⟨RX9, "canBeWord", "(III)Z"⟩
abbrev cX9_putFour : ByteArray := prog_1_method_45_code
def yX9_putFour : MethodName := ⟨RX9, "putFour", "(I)V"⟩
abbrev cX9_takeWordAt : ByteArray := prog_1_method_46_code
def yX9_takeWordAt : MethodName := ⟨RX9, "takeWordAt", "(I)Z"⟩
abbrev cX9_layPaper : ByteArray := prog_1_method_47_code
def yX9_layPaper : MethodName := ⟨RX9, "layPaper", "(LGalleyRoom$Galley;LGalleyRoom$Text;)V"⟩
abbrev cX9_nextDraw : ByteArray := prog_1_method_48_code
def yX9_nextDraw : MethodName := ⟨RX9, "nextDraw", "(I)I"⟩
abbrev cX9_clamp : ByteArray := prog_1_method_49_code
def yX9_clamp : MethodName := ⟨RX9, "clamp", "(JI)I"⟩
def RX10 : String := "GalleyRoomModel"
def TX10 : u_T := fun k => match k with
  | 0 => ("GalleyRoomModel", "status", "I", false)
  | 1 => ("GalleyRoomModel", "refused", "[I", true)
  | 2 => ("GalleyRoomModel", "kept", "[I", true)
  | 3 => ("GalleyRoomModel", "images", "[I", true)
  | 4 => ("GalleyRoomModel", "hasImage", "[Z", true)
  | 5 => ("GalleyRoomModel", "aside", "[I", true)
  | 6 => ("GalleyRoomModel", "turned0", "I", false)
  | 7 => ("GalleyRoomModel", "words", "[B", true)
  | 8 => ("GalleyRoomModel", "firstWord", "I", false)
  | 9 => ("GalleyRoomModel", "lastWord", "I", false)
  | 10 => ("GalleyRoomModel", "isOrders", "Z", false)
  | 11 => ("GalleyRoomModel", "tape", "[B", true)
  | 12 => ("GalleyRoomModel", "five", "[I", true)
  | 13 => ("GalleyRoomModel", "taped", "I", false)
  | 14 => ("GalleyRoomModel", "fault", "I", false)
  | 15 => ("GalleyRoomModel", "code", "[I", true)
  | 16 => ("GalleyRoomModel", "value", "[I", true)
  | 17 => ("GalleyRoomModel", "placed", "[I", true)
  | 18 => ("GalleyRoomModel", "tokens", "I", false)
  | 19 => ("GalleyRoomModel", "token", "I", false)
  | 20 => ("GalleyRoomModel", "leaves", "I", false)
  | 21 => ("GalleyRoomModel", "bad", "I", false)
  | 22 => ("GalleyRoomModel", "op", "[I", true)
  | 23 => ("GalleyRoomModel", "opWith", "[I", true)
  | 24 => ("GalleyRoomModel", "ops", "I", false)
  | 25 => ("GalleyRoomModel", "go", "I", false)
  | 26 => ("GalleyRoomModel", "goEnd", "I", false)
  | 27 => ("GalleyRoomModel", "broken", "Z", false)
  | 28 => ("GalleyRoomModel", "asked", "[I", true)
  | 29 => ("GalleyRoomModel", "orderDone", "I", false)
  | 30 => ("GalleyRoomModel", "orderLatest", "I", false)
  | 31 => ("GalleyRoomModel", "orderLines", "I", false)
  | 32 => ("GalleyRoomModel", "orderFit", "I", false)
  | 33 => ("GalleyRoomModel", "stack", "[J", true)
  | 34 => ("GalleyRoomModel", "summed", "J", false)
  | 35 => ("GalleyRoomModel", "stands", "[I", true)
  | 36 => ("GalleyRoomModel", "standMany", "I", false)
  | 37 => ("GalleyRoomModel", "linePieces", "I", false)
  | 38 => ("GalleyRoomModel", "lineWidth", "I", false)
  | 39 => ("GalleyRoomModel", "lineNumber", "I", false)
  | 40 => ("GalleyRoomModel", "lineEnd", "I", false)
  | 41 => ("GalleyRoomModel", "lineMeasure", "I", false)
  | 42 => ("GalleyRoomModel", "ending", "[I", true)
  | 43 => ("GalleyRoomModel", "lineMany", "I", false)
  | 44 => ("GalleyRoomModel", "left0", "[I", true)
  | 45 => ("GalleyRoomModel", "leftAhead", "[I", true)
  | 46 => ("GalleyRoomModel", "undoMany", "I", false)
  | 47 => ("GalleyRoomModel", "fitting", "[Z", true)
  | 48 => ("GalleyRoomModel", "price", "[I", true)
  | 49 => ("GalleyRoomModel", "gain", "[I", true)
  | 50 => ("GalleyRoomModel", "sum0", "[I", true)
  | 51 => ("GalleyRoomModel", "ways0", "[J", true)
  | 52 => ("GalleyRoomModel", "comes", "[Z", true)
  | 53 => ("GalleyRoomModel", "spaces", "[I", true)
  | 54 => ("GalleyRoomModel", "lengths", "[I", true)
  | 55 => ("GalleyRoomModel", "spaceMany", "[I", true)
  | 56 => ("GalleyRoomModel", "facts", "[I", true)
  | 57 => ("GalleyRoomModel", "shares", "[J", true)
  | 58 => ("GalleyRoomModel", "stopped0", "I", false)
  | 59 => ("GalleyRoomModel", "orderAt", "I", false)
  | 60 => ("GalleyRoomModel", "howOften", "I", false)
  | 61 => ("GalleyRoomModel", "head", "I", false)
  | 62 => ("GalleyRoomModel", "sumsAre", "Z", false)
  | 63 => ("GalleyRoomModel", "testIs", "Z", false)
  | 64 => ("GalleyRoomModel", "sums", "[J", true)
  | 65 => ("GalleyRoomModel", "drawnMoved", "[I", true)
  | 66 => ("GalleyRoomModel", "drawnMany", "I", false)
  | _ => ("GalleyRoomModel", "latest", "I", false)
def tyX10 : Nat → FieldType := fun k => match k with
  | 0 => .int
  | 1 => .array .int
  | 2 => .array .int
  | 3 => .array .int
  | 4 => .array .boolean
  | 5 => .array .int
  | 6 => .int
  | 7 => .array .byte
  | 8 => .int
  | 9 => .int
  | 10 => .boolean
  | 11 => .array .byte
  | 12 => .array .int
  | 13 => .int
  | 14 => .int
  | 15 => .array .int
  | 16 => .array .int
  | 17 => .array .int
  | 18 => .int
  | 19 => .int
  | 20 => .int
  | 21 => .int
  | 22 => .array .int
  | 23 => .array .int
  | 24 => .int
  | 25 => .int
  | 26 => .int
  | 27 => .boolean
  | 28 => .array .int
  | 29 => .int
  | 30 => .int
  | 31 => .int
  | 32 => .int
  | 33 => .array .long
  | 34 => .long
  | 35 => .array .int
  | 36 => .int
  | 37 => .int
  | 38 => .int
  | 39 => .int
  | 40 => .int
  | 41 => .int
  | 42 => .array .int
  | 43 => .int
  | 44 => .array .int
  | 45 => .array .int
  | 46 => .int
  | 47 => .array .boolean
  | 48 => .array .int
  | 49 => .array .int
  | 50 => .array .int
  | 51 => .array .long
  | 52 => .array .boolean
  | 53 => .array .int
  | 54 => .array .int
  | 55 => .array .int
  | 56 => .array .int
  | 57 => .array .long
  | 58 => .int
  | 59 => .int
  | 60 => .int
  | 61 => .int
  | 62 => .boolean
  | 63 => .boolean
  | 64 => .array .long
  | 65 => .array .int
  | 66 => .int
  | _ => .int
abbrev wsX100 : List Cond := u_ws RX10 TX10 68
theorem nmX10 : ∀ a, a < 68 → ∀ b, b < 68 → a ≠ b → (TX10 a).2.1 ≠ (TX10 b).2.1 := by decide +kernel
theorem tyX10_ok : ∀ k, k < 68 → parseFieldDescriptor (TX10 k).2.2.1 = some (tyX10 k) := by decide +kernel
abbrev cX10_lies : ByteArray := prog_12_method_1_code
def yX10_lies : MethodName := ⟨RX10, "lies", "(III)Z"⟩
abbrev cX10_lesser : ByteArray := prog_12_method_2_code
def yX10_lesser : MethodName := ⟨RX10, "lesser", "(II)I"⟩
abbrev cX10_greater : ByteArray := prog_12_method_3_code
def yX10_greater : MethodName := ⟨RX10, "greater", "(II)I"⟩
abbrev cX10_refuses : ByteArray := prog_12_method_4_code
def yX10_refuses : MethodName := ⟨RX10, "refuses", "(I)I"⟩
abbrev cX10_good : ByteArray := prog_12_method_5_code
def yX10_good : MethodName := ⟨RX10, "good", "(I)I"⟩
abbrev cX10_settled : ByteArray := prog_12_method_6_code
def yX10_settled : MethodName := ⟨RX10, "settled", "(I)I"⟩
abbrev cX10_isIn : ByteArray := prog_12_method_7_code
def yX10_isIn : MethodName := ⟨RX10, "isIn", "(II)Z"⟩
abbrev cX10_init : ByteArray := prog_12_method_9_code
def yX10_init : MethodName := ⟨RX10, "<init>", "()V"⟩
abbrev cX10_laysAside : ByteArray := prog_12_method_10_code
def yX10_laysAside : MethodName := ⟨RX10, "laysAside", "(I)V"⟩
abbrev cX10_takesBack : ByteArray := prog_12_method_11_code
def yX10_takesBack : MethodName := ⟨RX10, "takesBack", "(I)V"⟩
abbrev cX10_image : ByteArray := prog_12_method_12_code
def yX10_image : MethodName := ⟨RX10, "image", "(I)I"⟩
abbrev cX10_back : ByteArray := prog_12_method_13_code
def yX10_back : MethodName := ⟨RX10, "back", "(I)I"⟩
abbrev cX10_wordMany : ByteArray := prog_12_method_14_code
def yX10_wordMany : MethodName := ⟨RX10, "wordMany", "()I"⟩
abbrev cX10_isWord : ByteArray := prog_12_method_15_code
def yX10_isWord : MethodName := ⟨RX10, "isWord", "(I)Z"⟩
abbrev cX10_isLast : ByteArray := prog_12_method_16_code
def yX10_isLast : MethodName := ⟨RX10, "isLast", "(I)Z"⟩
abbrev cX10_endsAfter : ByteArray := prog_12_method_17_code
def yX10_endsAfter : MethodName := ⟨RX10, "endsAfter", "(I)Z"⟩
abbrev cX10_isSplit : ByteArray := prog_12_method_18_code
def yX10_isSplit : MethodName := ⟨RX10, "isSplit", "(I)Z"⟩
abbrev cX10_canWord : ByteArray := prog_12_method_19_code
def yX10_canWord : MethodName := ⟨RX10, "canWord", "(III)Z"⟩
abbrev cX10_adds : ByteArray := prog_12_method_20_code
def yX10_adds : MethodName := ⟨RX10, "adds", "(III)V"⟩
abbrev cX10_word : ByteArray := prog_12_method_21_code
def yX10_word : MethodName := ⟨RX10, "word", "(III)I"⟩
abbrev cX10_of : ByteArray := prog_12_method_22_code
def yX10_of : MethodName := ⟨RX10, "of", "(II)I"⟩
abbrev cX10_isTerm : ByteArray := prog_12_method_23_code
def yX10_isTerm : MethodName := ⟨RX10, "isTerm", "(II)Z"⟩
abbrev cX10_termAt : ByteArray := prog_12_method_24_code
def yX10_termAt : MethodName := ⟨RX10, "termAt", "(I)I"⟩
abbrev cX10_terms : ByteArray := prog_12_method_25_code
def yX10_terms : MethodName := ⟨RX10, "terms", "(II)I"⟩
abbrev cX10_row : ByteArray := prog_12_method_26_code
def yX10_row : MethodName := ⟨RX10, "row", "()I"⟩
abbrev cX10_turned : ByteArray := prog_12_method_27_code
def yX10_turned : MethodName := ⟨RX10, "turned", "()I"⟩
abbrev cX10_feed : ByteArray := prog_12_method_28_code
def yX10_feed : MethodName := ⟨RX10, "feed", "(IIIII)I"⟩
abbrev cX10_end : ByteArray := prog_12_method_29_code
def yX10_end : MethodName := ⟨RX10, "end", "(I)I"⟩
abbrev cX10_isSmall : ByteArray := prog_12_method_30_code
def yX10_isSmall : MethodName := ⟨RX10, "isSmall", "(I)Z"⟩
abbrev cX10_isDigit : ByteArray := prog_12_method_31_code
def yX10_isDigit : MethodName := ⟨RX10, "isDigit", "(I)Z"⟩
abbrev cX10_wordOf : ByteArray := prog_12_method_32_code
def yX10_wordOf : MethodName := ⟨RX10, "wordOf", "(II)I"⟩
abbrev cX10_splits : ByteArray := prog_12_method_33_code
def yX10_splits : MethodName := ⟨RX10, "splits", "(I)V"⟩
abbrev cX10_fine : ByteArray := prog_12_method_34_code
def yX10_fine : MethodName := ⟨RX10, "fine", "()Z"⟩
abbrev cX10_faults : ByteArray := prog_12_method_35_code
def yX10_faults : MethodName := ⟨RX10, "faults", "()V"⟩
abbrev cX10_tellsOp : ByteArray := prog_12_method_36_code
def yX10_tellsOp : MethodName := ⟨RX10, "tellsOp", "(II)I"⟩
abbrev cX10_takes0 : ByteArray := prog_12_method_37_code
def yX10_takes0 : MethodName := ⟨RX10, "takes0", "(I)Z"⟩
abbrev cX10_must : ByteArray := prog_12_method_38_code
def yX10_must : MethodName := ⟨RX10, "must", "(I)V"⟩
abbrev cX10_leaf : ByteArray := prog_12_method_39_code
def yX10_leaf : MethodName := ⟨RX10, "leaf", "()V"⟩
abbrev cX10_sign : ByteArray := prog_12_method_40_code
def yX10_sign : MethodName := ⟨RX10, "sign", "(C)I"⟩
abbrev cX10_mustNumber : ByteArray := prog_12_method_41_code
def yX10_mustNumber : MethodName := ⟨RX10, "mustNumber", "(II)V"⟩
abbrev cX10_readClause : ByteArray := prog_12_method_42_code
def yX10_readClause : MethodName := ⟨RX10, "readClause", "()V"⟩
abbrev cX10_readOrder : ByteArray := prog_12_method_43_code
def yX10_readOrder : MethodName := ⟨RX10, "readOrder", "()V"⟩
abbrev cX10_readOne : ByteArray := prog_12_method_44_code
def yX10_readOne : MethodName := ⟨RX10, "readOne", "()V"⟩
abbrev cX10_readTest : ByteArray := prog_12_method_45_code
def yX10_readTest : MethodName := ⟨RX10, "readTest", "(I)V"⟩
abbrev cX10_readBoth : ByteArray := prog_12_method_46_code
def yX10_readBoth : MethodName := ⟨RX10, "readBoth", "(I)V"⟩
abbrev cX10_readPlain : ByteArray := prog_12_method_47_code
def yX10_readPlain : MethodName := ⟨RX10, "readPlain", "(I)V"⟩
abbrev cX10_readSum : ByteArray := prog_12_method_48_code
def yX10_readSum : MethodName := ⟨RX10, "readSum", "(I)V"⟩
abbrev cX10_readTerm : ByteArray := prog_12_method_49_code
def yX10_readTerm : MethodName := ⟨RX10, "readTerm", "(I)V"⟩
abbrev cX10_readPart : ByteArray := prog_12_method_50_code
def yX10_readPart : MethodName := ⟨RX10, "readPart", "(I)V"⟩
abbrev cX10_reads : ByteArray := prog_12_method_51_code
def yX10_reads : MethodName := ⟨RX10, "reads", "()Z"⟩
abbrev cX10_readsAs : ByteArray := prog_12_method_52_code
def yX10_readsAs : MethodName := ⟨RX10, "readsAs", "(Z)Z"⟩
abbrev cX10_lays : ByteArray := prog_12_method_53_code
def yX10_lays : MethodName := ⟨RX10, "lays", "(I)V"⟩
abbrev cX10_laysOps : ByteArray := prog_12_method_54_code
def yX10_laysOps : MethodName := ⟨RX10, "laysOps", "(I)V"⟩
abbrev cX10_law : ByteArray := prog_12_method_55_code
def yX10_law : MethodName := ⟨RX10, "law", "()I"⟩
abbrev cX10_fault : ByteArray := prog_12_method_56_code
def yX10_fault : MethodName := ⟨RX10, "fault", "()I"⟩
abbrev cX10_isLaw : ByteArray := prog_12_method_57_code
def yX10_isLaw : MethodName := ⟨RX10, "isLaw", "(I)Z"⟩
abbrev cX10_force : ByteArray := prog_12_method_58_code
def yX10_force : MethodName := ⟨RX10, "force", "(I)I"⟩
abbrev cX10_codeAt : ByteArray := prog_12_method_59_code
def yX10_codeAt : MethodName := ⟨RX10, "codeAt", "(I)I"⟩
abbrev cX10_passes0 : ByteArray := prog_12_method_60_code
def yX10_passes0 : MethodName := ⟨RX10, "passes0", "(I)Z"⟩
abbrev cX10_bounded : ByteArray := prog_12_method_61_code
def yX10_bounded : MethodName := ⟨RX10, "bounded", "(JZ)J"⟩
abbrev cX10_sumOf : ByteArray := prog_12_method_62_code
def yX10_sumOf : MethodName := ⟨RX10, "sumOf", "(Z)J"⟩
abbrev cX10_termOf : ByteArray := prog_12_method_63_code
def yX10_termOf : MethodName := ⟨RX10, "termOf", "(Z)J"⟩
abbrev cX10_partOf : ByteArray := prog_12_method_64_code
def yX10_partOf : MethodName := ⟨RX10, "partOf", "(Z)J"⟩
abbrev cX10_orderValue : ByteArray := prog_12_method_65_code
def yX10_orderValue : MethodName := ⟨RX10, "orderValue", "(II)I"⟩
abbrev cX10_testOf : ByteArray := prog_12_method_66_code
def yX10_testOf : MethodName := ⟨RX10, "testOf", "(Z)Z"⟩
abbrev cX10_bothOf : ByteArray := prog_12_method_67_code
def yX10_bothOf : MethodName := ⟨RX10, "bothOf", "(Z)Z"⟩
abbrev cX10_plainOf : ByteArray := prog_12_method_68_code
def yX10_plainOf : MethodName := ⟨RX10, "plainOf", "(Z)Z"⟩
abbrev cX10_positiveOf : ByteArray := prog_12_method_69_code
def yX10_positiveOf : MethodName := ⟨RX10, "positiveOf", "(Z)Z"⟩
abbrev cX10_workedOff : ByteArray := prog_12_method_70_code
def yX10_workedOff : MethodName := ⟨RX10, "workedOff", "(IJJ)J"⟩
abbrev cX10_holds : ByteArray := prog_12_method_71_code
def yX10_holds : MethodName := ⟨RX10, "holds", "(III)Z"⟩
abbrev cX10_tells : ByteArray := prog_12_method_72_code
def yX10_tells : MethodName := ⟨RX10, "tells", "(III)I"⟩
abbrev cX10_laysAllWords : ByteArray := prog_12_method_73_code
def yX10_laysAllWords : MethodName := ⟨RX10, "laysAllWords", "()V"⟩
abbrev cX10_leavesOut : ByteArray := prog_12_method_74_code
def yX10_leavesOut : MethodName := ⟨RX10, "leavesOut", "(I)V"⟩
abbrev cX10_lastPlace : ByteArray := prog_12_method_75_code
def yX10_lastPlace : MethodName := ⟨RX10, "lastPlace", "()I"⟩
abbrev cX10_isWithin : ByteArray := prog_12_method_76_code
def yX10_isWithin : MethodName := ⟨RX10, "isWithin", "(I)Z"⟩
abbrev cX10_isPlace : ByteArray := prog_12_method_77_code
def yX10_isPlace : MethodName := ⟨RX10, "isPlace", "(I)Z"⟩
abbrev cX10_addsPiece : ByteArray := prog_12_method_78_code
def yX10_addsPiece : MethodName := ⟨RX10, "addsPiece", "(I)V"⟩
abbrev cX10_takesLine : ByteArray := prog_12_method_79_code
def yX10_takesLine : MethodName := ⟨RX10, "takesLine", "(IIII)V"⟩
abbrev cX10_isLastLine : ByteArray := prog_12_method_80_code
def yX10_isLastLine : MethodName := ⟨RX10, "isLastLine", "()Z"⟩
abbrev cX10_setsAsked : ByteArray := prog_12_method_81_code
def yX10_setsAsked : MethodName := ⟨RX10, "setsAsked", "()V"⟩
abbrev cX10_costsNow : ByteArray := prog_12_method_82_code
def yX10_costsNow : MethodName := ⟨RX10, "costsNow", "()I"⟩
abbrev cX10_paysNow : ByteArray := prog_12_method_83_code
def yX10_paysNow : MethodName := ⟨RX10, "paysNow", "()I"⟩
abbrev cX10_isBarred : ByteArray := prog_12_method_84_code
def yX10_isBarred : MethodName := ⟨RX10, "isBarred", "()Z"⟩
abbrev cX10_fitsNow : ByteArray := prog_12_method_85_code
def yX10_fitsNow : MethodName := ⟨RX10, "fitsNow", "()Z"⟩
abbrev cX10_laysSetting : ByteArray := prog_12_method_86_code
def yX10_laysSetting : MethodName := ⟨RX10, "laysSetting", "()V"⟩
abbrev cX10_takesSet : ByteArray := prog_12_method_87_code
def yX10_takesSet : MethodName := ⟨RX10, "takesSet", "(I)V"⟩
abbrev cX10_line : ByteArray := prog_12_method_88_code
def yX10_line : MethodName := ⟨RX10, "line", "(II)I"⟩
abbrev cX10_allOf : ByteArray := prog_12_method_89_code
def yX10_allOf : MethodName := ⟨RX10, "allOf", "(I)I"⟩
abbrev cX10_all : ByteArray := prog_12_method_90_code
def yX10_all : MethodName := ⟨RX10, "all", "(I)I"⟩
abbrev cX10_settingLines : ByteArray := prog_12_method_91_code
def yX10_settingLines : MethodName := ⟨RX10, "settingLines", "()I"⟩
abbrev cX10_keeps : ByteArray := prog_12_method_92_code
def yX10_keeps : MethodName := ⟨RX10, "keeps", "(I)V"⟩
abbrev cX10_undo : ByteArray := prog_12_method_93_code
def yX10_undo : MethodName := ⟨RX10, "undo", "()I"⟩
abbrev cX10_goodOr : ByteArray := prog_12_method_94_code
def yX10_goodOr : MethodName := ⟨RX10, "goodOr", "(I)I"⟩
abbrev cX10_stopsKept : ByteArray := prog_12_method_95_code
def yX10_stopsKept : MethodName := ⟨RX10, "stopsKept", "(I)I"⟩
abbrev cX10_splitsKept : ByteArray := prog_12_method_96_code
def yX10_splitsKept : MethodName := ⟨RX10, "splitsKept", "(I)I"⟩
abbrev cX10_canSwell : ByteArray := prog_12_method_97_code
def yX10_canSwell : MethodName := ⟨RX10, "canSwell", "(II)Z"⟩
abbrev cX10_swellsKept : ByteArray := prog_12_method_98_code
def yX10_swellsKept : MethodName := ⟨RX10, "swellsKept", "(II)I"⟩
abbrev cX10_passesKept : ByteArray := prog_12_method_99_code
def yX10_passesKept : MethodName := ⟨RX10, "passesKept", "()I"⟩
abbrev cX10_stop : ByteArray := prog_12_method_100_code
def yX10_stop : MethodName := ⟨RX10, "stop", "(I)I"⟩
abbrev cX10_split : ByteArray := prog_12_method_101_code
def yX10_split : MethodName := ⟨RX10, "split", "(I)I"⟩
abbrev cX10_swell : ByteArray := prog_12_method_102_code
def yX10_swell : MethodName := ⟨RX10, "swell", "(II)I"⟩
abbrev cX10_pass : ByteArray := prog_12_method_103_code
def yX10_pass : MethodName := ⟨RX10, "pass", "()I"⟩
abbrev cX10_lineAt : ByteArray := prog_12_method_104_code
def yX10_lineAt : MethodName := ⟨RX10, "lineAt", "(III)I"⟩
abbrev cX10_stateAt : ByteArray := prog_12_method_105_code
def yX10_stateAt : MethodName := ⟨RX10, "stateAt", "(II)I"⟩
abbrev cX10_laysLines : ByteArray := prog_12_method_106_code
def yX10_laysLines : MethodName := ⟨RX10, "laysLines", "(IZ)V"⟩
abbrev cX10_laysLine : ByteArray := prog_12_method_107_code
def yX10_laysLine : MethodName := ⟨RX10, "laysLine", "(IIIIZ)V"⟩
abbrev cX10_canLine : ByteArray := prog_12_method_108_code
def yX10_canLine : MethodName := ⟨RX10, "canLine", "(III)Z"⟩
abbrev cX10_laysLeast : ByteArray := prog_12_method_109_code
def yX10_laysLeast : MethodName := ⟨RX10, "laysLeast", "()V"⟩
abbrev cX10_isStart : ByteArray := prog_12_method_110_code
def yX10_isStart : MethodName := ⟨RX10, "isStart", "(I)Z"⟩
abbrev cX10_bestNow : ByteArray := prog_12_method_111_code
def yX10_bestNow : MethodName := ⟨RX10, "bestNow", "()I"⟩
abbrev cX10_best : ByteArray := prog_12_method_112_code
def yX10_best : MethodName := ⟨RX10, "best", "(I)I"⟩
abbrev cX10_laysSums : ByteArray := prog_12_method_113_code
def yX10_laysSums : MethodName := ⟨RX10, "laysSums", "(Z)V"⟩
abbrev cX10_takesSum : ByteArray := prog_12_method_114_code
def yX10_takesSum : MethodName := ⟨RX10, "takesSum", "(IIIZ)V"⟩
abbrev cX10_laysCosts : ByteArray := prog_12_method_115_code
def yX10_laysCosts : MethodName := ⟨RX10, "laysCosts", "()V"⟩
abbrev cX10_costsBy : ByteArray := prog_12_method_116_code
def yX10_costsBy : MethodName := ⟨RX10, "costsBy", "(I)I"⟩
abbrev cX10_just : ByteArray := prog_12_method_117_code
def yX10_just : MethodName := ⟨RX10, "just", "(I)I"⟩
abbrev cX10_fewest : ByteArray := prog_12_method_118_code
def yX10_fewest : MethodName := ⟨RX10, "fewest", "()I"⟩
abbrev cX10_most : ByteArray := prog_12_method_119_code
def yX10_most : MethodName := ⟨RX10, "most", "()I"⟩
abbrev cX10_ways : ByteArray := prog_12_method_120_code
def yX10_ways : MethodName := ⟨RX10, "ways", "()J"⟩
abbrev cX10_richest : ByteArray := prog_12_method_121_code
def yX10_richest : MethodName := ⟨RX10, "richest", "()I"⟩
abbrev cX10_isBy : ByteArray := prog_12_method_122_code
def yX10_isBy : MethodName := ⟨RX10, "isBy", "(I)Z"⟩
abbrev cX10_narrow : ByteArray := prog_12_method_123_code
def yX10_narrow : MethodName := ⟨RX10, "narrow", "(I)I"⟩
abbrev cX10_leaveOut : ByteArray := prog_12_method_124_code
def yX10_leaveOut : MethodName := ⟨RX10, "leaveOut", "(I)I"⟩
abbrev cX10_compare : ByteArray := prog_12_method_125_code
def yX10_compare : MethodName := ⟨RX10, "compare", "(I)I"⟩
abbrev cX10_addsSpaced : ByteArray := prog_12_method_126_code
def yX10_addsSpaced : MethodName := ⟨RX10, "addsSpaced", "(IIZI)I"⟩
abbrev cX10_laysSpaces : ByteArray := prog_12_method_127_code
def yX10_laysSpaces : MethodName := ⟨RX10, "laysSpaces", "(II)V"⟩
abbrev cX10_riverTo : ByteArray := prog_12_method_128_code
def yX10_riverTo : MethodName := ⟨RX10, "riverTo", "(II)I"⟩
abbrev cX10_river : ByteArray := prog_12_method_129_code
def yX10_river : MethodName := ⟨RX10, "river", "()I"⟩
abbrev cX10_seen : ByteArray := prog_12_method_130_code
def yX10_seen : MethodName := ⟨RX10, "seen", "(II)I"⟩
abbrev cX10_forget : ByteArray := prog_12_method_131_code
def yX10_forget : MethodName := ⟨RX10, "forget", "()I"⟩
abbrev cX10_laysFacts : ByteArray := prog_12_method_132_code
def yX10_laysFacts : MethodName := ⟨RX10, "laysFacts", "()V"⟩
abbrev cX10_isSo : ByteArray := prog_12_method_133_code
def yX10_isSo : MethodName := ⟨RX10, "isSo", "(I)Z"⟩
abbrev cX10_canBe : ByteArray := prog_12_method_134_code
def yX10_canBe : MethodName := ⟨RX10, "canBe", "()I"⟩
abbrev cX10_mostAlike : ByteArray := prog_12_method_135_code
def yX10_mostAlike : MethodName := ⟨RX10, "mostAlike", "(II)I"⟩
abbrev cX10_look : ByteArray := prog_12_method_136_code
def yX10_look : MethodName := ⟨RX10, "look", "(I)I"⟩
abbrev cX10_few : ByteArray := prog_12_method_137_code
def yX10_few : MethodName := ⟨RX10, "few", "(II)J"⟩
abbrev cX10_stopped : ByteArray := prog_12_method_138_code
def yX10_stopped : MethodName := ⟨RX10, "stopped", "()I"⟩
abbrev cX10_orders : ByteArray := prog_12_method_139_code
def yX10_orders : MethodName := ⟨RX10, "orders", "()I"⟩
abbrev cX10_goesAlong : ByteArray := prog_12_method_140_code
def yX10_goesAlong : MethodName := ⟨RX10, "goesAlong", "(IZ)V"⟩
abbrev cX10_small : ByteArray := prog_12_method_141_code
def yX10_small : MethodName := ⟨RX10, "small", "(J)I"⟩
abbrev cX10_obeys : ByteArray := prog_12_method_142_code
def yX10_obeys : MethodName := ⟨RX10, "obeys", "()I"⟩
abbrev cX10_runs : ByteArray := prog_12_method_143_code
def yX10_runs : MethodName := ⟨RX10, "runs", "(I)Z"⟩
abbrev cX10_draws : ByteArray := prog_12_method_144_code
def yX10_draws : MethodName := ⟨RX10, "draws", "(I)I"⟩
abbrev cX10_drawnAct : ByteArray := prog_12_method_145_code
def yX10_drawnAct : MethodName := ⟨RX10, "drawnAct", "()V"⟩
abbrev cX10_weeks : ByteArray := prog_12_method_146_code
def yX10_weeks : MethodName := ⟨RX10, "weeks", "(II)I"⟩
abbrev cX10_drawn : ByteArray := prog_12_method_147_code
def yX10_drawn : MethodName := ⟨RX10, "drawn", "(II)I"⟩
abbrev cX10_count : ByteArray := prog_12_method_148_code
def yX10_count : MethodName := ⟨RX10, "count", "(I)I"⟩
abbrev cX10_status : ByteArray := prog_12_method_149_code
def yX10_status : MethodName := ⟨RX10, "status", "()I"⟩
abbrev vwCl : List vw_C := [(RX0, TX0, 9), (RX1, TX1, 13), (RX2, TX2, 9), (RX3, TX3, 4), (RX4, TX4, 2), (RX5, TX5, 6), (RX6, TX6, 7), (RX7, TX7, 5), (RX8, TX8, 9), (RX9, TX9, 17), (RX10, TX10, 68)]
theorem lw_sub {big : List Cond} (ws : List Cond) (ps : List Nat) (hp : ws = ps.filterMap (fun i => big[i]?)) : ∀ w ∈ ws, w ∈ big := by
  intro w hw
  rw [hp] at hw
  obtain ⟨i, -, hi⟩ := List.mem_filterMap.mp hw
  first | exact List.mem_of_getElem? hi | exact List.getElem?_mem hi
def lwG : List Cond := lw_tbl.filter goodWord
theorem lwG_mem {w : Cond} (h : w ∈ lw_tbl) (g : goodWord w = true) : w ∈ lwG := List.mem_filter.mpr ⟨h, g⟩
theorem lwG_1 {w : Cond} (h : w ∈ tables_1_1) (g : goodWord w = true) : w ∈ lwG := lwG_mem (List.mem_append_right _ (List.mem_append_left _ h)) g
theorem lwG_2 {w : Cond} (h : w ∈ tables_1_2) (g : goodWord w = true) : w ∈ lwG := lwG_mem (List.mem_append_right _ (List.mem_append_right _ (List.mem_append_left _ h))) g
theorem lwG_3 {w : Cond} (h : w ∈ tables_1_3) (g : goodWord w = true) : w ∈ lwG := lwG_mem (List.mem_append_right _ (List.mem_append_right _ (List.mem_append_right _ (List.mem_append_left _ h)))) g
theorem lwG_4 {w : Cond} (h : w ∈ tables_1_4) (g : goodWord w = true) : w ∈ lwG := lwG_mem (List.mem_append_right _ (List.mem_append_right _ (List.mem_append_right _ (List.mem_append_right _ (List.mem_append_left _ h))))) g
theorem lwG_5 {w : Cond} (h : w ∈ tables_1_5) (g : goodWord w = true) : w ∈ lwG := lwG_mem (List.mem_append_right _ (List.mem_append_right _ (List.mem_append_right _ (List.mem_append_right _ (List.mem_append_right _ (List.mem_append_left _ h)))))) g
theorem lwG_6 {w : Cond} (h : w ∈ tables_1_6) (g : goodWord w = true) : w ∈ lwG := lwG_mem (List.mem_append_right _ (List.mem_append_right _ (List.mem_append_right _ (List.mem_append_right _ (List.mem_append_right _ (List.mem_append_right _ (List.mem_append_left _ h))))))) g
theorem lwG_7 {w : Cond} (h : w ∈ tables_1_7) (g : goodWord w = true) : w ∈ lwG := lwG_mem (List.mem_append_right _ (List.mem_append_right _ (List.mem_append_right _ (List.mem_append_right _ (List.mem_append_right _ (List.mem_append_right _ (List.mem_append_right _ (List.mem_append_left _ h)))))))) g
theorem lwG_8 {w : Cond} (h : w ∈ tables_1_8) (g : goodWord w = true) : w ∈ lwG := lwG_mem (List.mem_append_right _ (List.mem_append_right _ (List.mem_append_right _ (List.mem_append_right _ (List.mem_append_right _ (List.mem_append_right _ (List.mem_append_right _ (List.mem_append_right _ (h))))))))) g
set_option maxRecDepth 100000 in
theorem inX0 : ∀ w ∈ wsX00, w ∈ lwG := fun w h => lwG_mem (lw_sub _ [357, 359, 361, 363, 365, 367, 369, 371, 373] (by decide +kernel) w h) (List.all_eq_true.mp (show wsX00.all goodWord = true by decide +kernel) w h)
set_option maxRecDepth 100000 in
theorem inX1 : ∀ w ∈ wsX10, w ∈ lwG := fun w h => lwG_mem (lw_sub _ [206, 208, 210, 212, 214, 216, 218, 220, 222, 224, 226, 228, 230] (by decide +kernel) w h) (List.all_eq_true.mp (show wsX10.all goodWord = true by decide +kernel) w h)
set_option maxRecDepth 100000 in
theorem inX2 : ∀ w ∈ wsX20, w ∈ lwG := fun w h => lwG_mem (lw_sub _ [305, 307, 309, 311, 313, 315, 317, 319, 321] (by decide +kernel) w h) (List.all_eq_true.mp (show wsX20.all goodWord = true by decide +kernel) w h)
set_option maxRecDepth 100000 in
theorem inX3 : ∀ w ∈ wsX30, w ∈ lwG := fun w h => lwG_mem (lw_sub _ [245, 247, 249, 251] (by decide +kernel) w h) (List.all_eq_true.mp (show wsX30.all goodWord = true by decide +kernel) w h)
set_option maxRecDepth 100000 in
theorem inX4 : ∀ w ∈ wsX40, w ∈ lwG := fun w h => lwG_mem (lw_sub _ [278, 280] (by decide +kernel) w h) (List.all_eq_true.mp (show wsX40.all goodWord = true by decide +kernel) w h)
set_option maxRecDepth 100000 in
theorem inX5 : ∀ w ∈ wsX50, w ∈ lwG := fun w h => lwG_mem (lw_sub _ [482, 484, 486, 488, 490, 492] (by decide +kernel) w h) (List.all_eq_true.mp (show wsX50.all goodWord = true by decide +kernel) w h)
set_option maxRecDepth 100000 in
theorem inX6 : ∀ w ∈ wsX60, w ∈ lwG := fun w h => lwG_mem (lw_sub _ [453, 455, 457, 459, 461, 463, 465] (by decide +kernel) w h) (List.all_eq_true.mp (show wsX60.all goodWord = true by decide +kernel) w h)
set_option maxRecDepth 100000 in
theorem inX7 : ∀ w ∈ wsX70, w ∈ lwG := fun w h => lwG_mem (lw_sub _ [331, 333, 335, 337, 339] (by decide +kernel) w h) (List.all_eq_true.mp (show wsX70.all goodWord = true by decide +kernel) w h)
set_option maxRecDepth 100000 in
theorem inX8 : ∀ w ∈ wsX80, w ∈ lwG := fun w h => lwG_mem (lw_sub _ [423, 425, 427, 429, 431, 433, 435, 437, 439] (by decide +kernel) w h) (List.all_eq_true.mp (show wsX80.all goodWord = true by decide +kernel) w h)
set_option maxRecDepth 100000 in
theorem inX9 : ∀ w ∈ wsX90, w ∈ lwG := fun w h => lwG_mem (lw_sub _ [512, 514, 516, 518, 520, 522, 524, 526, 528, 530, 532, 534, 536, 538, 540, 542, 544] (by decide +kernel) w h) (List.all_eq_true.mp (show wsX90.all goodWord = true by decide +kernel) w h)
set_option maxRecDepth 100000 in
theorem inX10 : ∀ w ∈ wsX100, w ∈ lwG := fun w h => lwG_mem (lw_sub _ [1262, 1264, 1266, 1268, 1270, 1272, 1274, 1276, 1278, 1280, 1282, 1284, 1286, 1288, 1290, 1292, 1294, 1296, 1298, 1300, 1302, 1304, 1306, 1308, 1310, 1312, 1314, 1316, 1318, 1320, 1322, 1324, 1326, 1328, 1330, 1332, 1334, 1336, 1338, 1340, 1342, 1344, 1346, 1348, 1350, 1352, 1354, 1356, 1358, 1360, 1362, 1364, 1366, 1368, 1370, 1372, 1374, 1376, 1378, 1380, 1382, 1384, 1386, 1388, 1390, 1392, 1394, 1396] (by decide +kernel) w h) (List.all_eq_true.mp (show wsX100.all goodWord = true by decide +kernel) w h)
