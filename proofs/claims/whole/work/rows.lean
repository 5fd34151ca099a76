section
-- ===== PART A: goes FIRST, ahead of the names: the tables' words, and 'selects' of the private methods out of them =====
/-- a private method of a class that the tables say can be made, by its rows of tables_1 -/
def lw_okq (q : MethodName × Nat) : Prop := (q.1.cls ≠ "java/lang/invoke/MethodHandle" ∧ q.1.cls ≠ "java/lang/invoke/VarHandle") ∧ Cond.instantiable q.1.cls q.2 ∈ tables_1 ∧ Cond.privateMethod q.1 ∈ tables_1 ∧ Cond.instanceMethod q.1 ∈ tables_1
theorem lw_p0 : lw_okq (⟨"FilmPrinter", "refuse", "(I)I"⟩, 12) := ⟨⟨by decide +kernel, by decide +kernel⟩, List.mem_of_getElem? (i := 21) (by decide +kernel), List.mem_of_getElem? (i := 440) (by decide +kernel), List.mem_of_getElem? (i := 441) (by decide +kernel)⟩
theorem lw_p1 : lw_okq (⟨"FilmPrinter", "accept", "(I)I"⟩, 12) := ⟨⟨by decide +kernel, by decide +kernel⟩, List.mem_of_getElem? (i := 21) (by decide +kernel), List.mem_of_getElem? (i := 462) (by decide +kernel), List.mem_of_getElem? (i := 463) (by decide +kernel)⟩
theorem lw_p2 : lw_okq (⟨"FilmPrinter", "hasShot", "(I)Z"⟩, 12) := ⟨⟨by decide +kernel, by decide +kernel⟩, List.mem_of_getElem? (i := 21) (by decide +kernel), List.mem_of_getElem? (i := 474) (by decide +kernel), List.mem_of_getElem? (i := 475) (by decide +kernel)⟩
theorem lw_p3 : lw_okq (⟨"FilmPrinter$Reader", "split", "(LFilmPrinter$Tape;)V"⟩, 7) := ⟨⟨by decide +kernel, by decide +kernel⟩, List.mem_of_getElem? (i := 176) (by decide +kernel), List.mem_of_getElem? (i := 507) (by decide +kernel), List.mem_of_getElem? (i := 508) (by decide +kernel)⟩
theorem lw_p4 : lw_okq (⟨"FilmPrinter$Reader", "addWord", "(LFilmPrinter$Tape;II)V"⟩, 7) := ⟨⟨by decide +kernel, by decide +kernel⟩, List.mem_of_getElem? (i := 176) (by decide +kernel), List.mem_of_getElem? (i := 514) (by decide +kernel), List.mem_of_getElem? (i := 515) (by decide +kernel)⟩
theorem lw_p5 : lw_okq (⟨"FilmPrinter$Reader", "addToken", "(III)V"⟩, 7) := ⟨⟨by decide +kernel, by decide +kernel⟩, List.mem_of_getElem? (i := 176) (by decide +kernel), List.mem_of_getElem? (i := 579) (by decide +kernel), List.mem_of_getElem? (i := 580) (by decide +kernel)⟩
theorem lw_p6 : lw_okq (⟨"FilmPrinter$Reader", "readClause", "()Z"⟩, 7) := ⟨⟨by decide +kernel, by decide +kernel⟩, List.mem_of_getElem? (i := 176) (by decide +kernel), List.mem_of_getElem? (i := 605) (by decide +kernel), List.mem_of_getElem? (i := 606) (by decide +kernel)⟩
theorem lw_p7 : lw_okq (⟨"FilmPrinter$Reader", "pass", "()V"⟩, 7) := ⟨⟨by decide +kernel, by decide +kernel⟩, List.mem_of_getElem? (i := 176) (by decide +kernel), List.mem_of_getElem? (i := 609) (by decide +kernel), List.mem_of_getElem? (i := 610) (by decide +kernel)⟩
theorem lw_p8 : lw_okq (⟨"FilmPrinter$Reader", "readSum", "(I)Z"⟩, 7) := ⟨⟨by decide +kernel, by decide +kernel⟩, List.mem_of_getElem? (i := 176) (by decide +kernel), List.mem_of_getElem? (i := 613) (by decide +kernel), List.mem_of_getElem? (i := 614) (by decide +kernel)⟩
theorem lw_p9 : lw_okq (⟨"FilmPrinter$Reader", "readTerm", "(I)Z"⟩, 7) := ⟨⟨by decide +kernel, by decide +kernel⟩, List.mem_of_getElem? (i := 176) (by decide +kernel), List.mem_of_getElem? (i := 617) (by decide +kernel), List.mem_of_getElem? (i := 618) (by decide +kernel)⟩
theorem lw_p10 : lw_okq (⟨"FilmPrinter$Reader", "readPart", "(I)Z"⟩, 7) := ⟨⟨by decide +kernel, by decide +kernel⟩, List.mem_of_getElem? (i := 176) (by decide +kernel), List.mem_of_getElem? (i := 621) (by decide +kernel), List.mem_of_getElem? (i := 622) (by decide +kernel)⟩
theorem lw_p11 : lw_okq (⟨"FilmPrinter$Reader", "readTest", "(I)Z"⟩, 7) := ⟨⟨by decide +kernel, by decide +kernel⟩, List.mem_of_getElem? (i := 176) (by decide +kernel), List.mem_of_getElem? (i := 630) (by decide +kernel), List.mem_of_getElem? (i := 631) (by decide +kernel)⟩
theorem lw_p12 : lw_okq (⟨"FilmPrinter$Reader", "readBoth", "(I)Z"⟩, 7) := ⟨⟨by decide +kernel, by decide +kernel⟩, List.mem_of_getElem? (i := 176) (by decide +kernel), List.mem_of_getElem? (i := 634) (by decide +kernel), List.mem_of_getElem? (i := 635) (by decide +kernel)⟩
theorem lw_p13 : lw_okq (⟨"FilmPrinter$Reader", "readPlain", "(I)Z"⟩, 7) := ⟨⟨by decide +kernel, by decide +kernel⟩, List.mem_of_getElem? (i := 176) (by decide +kernel), List.mem_of_getElem? (i := 638) (by decide +kernel), List.mem_of_getElem? (i := 639) (by decide +kernel)⟩
theorem lw_p14 : lw_okq (⟨"FilmPrinter$Reader", "readComparison", "(I)Z"⟩, 7) := ⟨⟨by decide +kernel, by decide +kernel⟩, List.mem_of_getElem? (i := 176) (by decide +kernel), List.mem_of_getElem? (i := 642) (by decide +kernel), List.mem_of_getElem? (i := 643) (by decide +kernel)⟩
theorem lw_p15 : lw_okq (⟨"FilmPrinter$Asker", "holds", "(LFilmPrinter$Law;II)Z"⟩, 6) := ⟨⟨by decide +kernel, by decide +kernel⟩, List.mem_of_getElem? (i := 207) (by decide +kernel), List.mem_of_getElem? (i := 685) (by decide +kernel), List.mem_of_getElem? (i := 686) (by decide +kernel)⟩
def lw_privs_1 : List (MethodName × Nat) := [(⟨"FilmPrinter", "refuse", "(I)I"⟩, 12), (⟨"FilmPrinter", "accept", "(I)I"⟩, 12), (⟨"FilmPrinter", "hasShot", "(I)Z"⟩, 12), (⟨"FilmPrinter$Reader", "split", "(LFilmPrinter$Tape;)V"⟩, 7), (⟨"FilmPrinter$Reader", "addWord", "(LFilmPrinter$Tape;II)V"⟩, 7), (⟨"FilmPrinter$Reader", "addToken", "(III)V"⟩, 7), (⟨"FilmPrinter$Reader", "readClause", "()Z"⟩, 7), (⟨"FilmPrinter$Reader", "pass", "()V"⟩, 7), (⟨"FilmPrinter$Reader", "readSum", "(I)Z"⟩, 7), (⟨"FilmPrinter$Reader", "readTerm", "(I)Z"⟩, 7), (⟨"FilmPrinter$Reader", "readPart", "(I)Z"⟩, 7), (⟨"FilmPrinter$Reader", "readTest", "(I)Z"⟩, 7), (⟨"FilmPrinter$Reader", "readBoth", "(I)Z"⟩, 7), (⟨"FilmPrinter$Reader", "readPlain", "(I)Z"⟩, 7), (⟨"FilmPrinter$Reader", "readComparison", "(I)Z"⟩, 7), (⟨"FilmPrinter$Asker", "holds", "(LFilmPrinter$Law;II)Z"⟩, 6)]
theorem lw_r1 : ∀ q ∈ lw_privs_1, lw_okq q := List.forall_mem_cons.mpr ⟨lw_p0, List.forall_mem_cons.mpr ⟨lw_p1, List.forall_mem_cons.mpr ⟨lw_p2, List.forall_mem_cons.mpr ⟨lw_p3, List.forall_mem_cons.mpr ⟨lw_p4, List.forall_mem_cons.mpr ⟨lw_p5, List.forall_mem_cons.mpr ⟨lw_p6, List.forall_mem_cons.mpr ⟨lw_p7, List.forall_mem_cons.mpr ⟨lw_p8, List.forall_mem_cons.mpr ⟨lw_p9, List.forall_mem_cons.mpr ⟨lw_p10, List.forall_mem_cons.mpr ⟨lw_p11, List.forall_mem_cons.mpr ⟨lw_p12, List.forall_mem_cons.mpr ⟨lw_p13, List.forall_mem_cons.mpr ⟨lw_p14, List.forall_mem_cons.mpr ⟨lw_p15, fun _ h => absurd h List.not_mem_nil⟩⟩⟩⟩⟩⟩⟩⟩⟩⟩⟩⟩⟩⟩⟩⟩
theorem lw_p16 : lw_okq (⟨"FilmPrinter$Asker", "run", "(II)Z"⟩, 6) := ⟨⟨by decide +kernel, by decide +kernel⟩, List.mem_of_getElem? (i := 207) (by decide +kernel), List.mem_of_getElem? (i := 689) (by decide +kernel), List.mem_of_getElem? (i := 690) (by decide +kernel)⟩
theorem lw_p17 : lw_okq (⟨"FilmPrinter$Asker", "push", "(I)Z"⟩, 6) := ⟨⟨by decide +kernel, by decide +kernel⟩, List.mem_of_getElem? (i := 207) (by decide +kernel), List.mem_of_getElem? (i := 693) (by decide +kernel), List.mem_of_getElem? (i := 694) (by decide +kernel)⟩
theorem lw_p18 : lw_okq (⟨"FilmPrinter$Asker", "reckon", "(IJJ)Z"⟩, 6) := ⟨⟨by decide +kernel, by decide +kernel⟩, List.mem_of_getElem? (i := 207) (by decide +kernel), List.mem_of_getElem? (i := 697) (by decide +kernel), List.mem_of_getElem? (i := 698) (by decide +kernel)⟩
theorem lw_p19 : lw_okq (⟨"FilmPrinter$Edition", "addPlace", "(II)V"⟩, 6) := ⟨⟨by decide +kernel, by decide +kernel⟩, List.mem_of_getElem? (i := 238) (by decide +kernel), List.mem_of_getElem? (i := 713) (by decide +kernel), List.mem_of_getElem? (i := 714) (by decide +kernel)⟩
theorem lw_p20 : lw_okq (⟨"FilmPrinter", "hasPlace", "(II)Z"⟩, 12) := ⟨⟨by decide +kernel, by decide +kernel⟩, List.mem_of_getElem? (i := 21) (by decide +kernel), List.mem_of_getElem? (i := 722) (by decide +kernel), List.mem_of_getElem? (i := 723) (by decide +kernel)⟩
theorem lw_p21 : lw_okq (⟨"FilmPrinter", "isExplained", "(I)Z"⟩, 12) := ⟨⟨by decide +kernel, by decide +kernel⟩, List.mem_of_getElem? (i := 21) (by decide +kernel), List.mem_of_getElem? (i := 759) (by decide +kernel), List.mem_of_getElem? (i := 760) (by decide +kernel)⟩
theorem lw_p22 : lw_okq (⟨"FilmPrinter$Explainer", "countApart", "(LFilmPrinter$State;LFilmPrinter$Edition;)V"⟩, 6) := ⟨⟨by decide +kernel, by decide +kernel⟩, List.mem_of_getElem? (i := 274) (by decide +kernel), List.mem_of_getElem? (i := 767) (by decide +kernel), List.mem_of_getElem? (i := 768) (by decide +kernel)⟩
theorem lw_p23 : lw_okq (⟨"FilmPrinter$Explainer", "bestFail", "(LFilmPrinter$Edition;III)I"⟩, 6) := ⟨⟨by decide +kernel, by decide +kernel⟩, List.mem_of_getElem? (i := 274) (by decide +kernel), List.mem_of_getElem? (i := 777) (by decide +kernel), List.mem_of_getElem? (i := 778) (by decide +kernel)⟩
theorem lw_p24 : lw_okq (⟨"FilmPrinter$Explainer", "leastBy", "(LFilmPrinter$Edition;IIII)I"⟩, 6) := ⟨⟨by decide +kernel, by decide +kernel⟩, List.mem_of_getElem? (i := 274) (by decide +kernel), List.mem_of_getElem? (i := 781) (by decide +kernel), List.mem_of_getElem? (i := 782) (by decide +kernel)⟩
theorem lw_p25 : lw_okq (⟨"FilmPrinter$Explainer", "follow", "(LFilmPrinter$Edition;I)V"⟩, 6) := ⟨⟨by decide +kernel, by decide +kernel⟩, List.mem_of_getElem? (i := 274) (by decide +kernel), List.mem_of_getElem? (i := 786) (by decide +kernel), List.mem_of_getElem? (i := 787) (by decide +kernel)⟩
theorem lw_p26 : lw_okq (⟨"FilmPrinter$Matcher", "weigh", "(LFilmPrinter$State;III)V"⟩, 6) := ⟨⟨by decide +kernel, by decide +kernel⟩, List.mem_of_getElem? (i := 330) (by decide +kernel), List.mem_of_getElem? (i := 844) (by decide +kernel), List.mem_of_getElem? (i := 845) (by decide +kernel)⟩
theorem lw_p27 : lw_okq (⟨"FilmPrinter$Matcher", "choose", "(LFilmPrinter$State;II)V"⟩, 6) := ⟨⟨by decide +kernel, by decide +kernel⟩, List.mem_of_getElem? (i := 330) (by decide +kernel), List.mem_of_getElem? (i := 850) (by decide +kernel), List.mem_of_getElem? (i := 851) (by decide +kernel)⟩
theorem lw_p28 : lw_okq (⟨"FilmPrinter", "makeOne", "()V"⟩, 12) := ⟨⟨by decide +kernel, by decide +kernel⟩, List.mem_of_getElem? (i := 21) (by decide +kernel), List.mem_of_getElem? (i := 862) (by decide +kernel), List.mem_of_getElem? (i := 863) (by decide +kernel)⟩
theorem lw_p29 : lw_okq (⟨"FilmPrinter$Maker", "follow", "(LFilmPrinter$State;LFilmPrinter$Matcher;I)V"⟩, 8) := ⟨⟨by decide +kernel, by decide +kernel⟩, List.mem_of_getElem? (i := 359) (by decide +kernel), List.mem_of_getElem? (i := 877) (by decide +kernel), List.mem_of_getElem? (i := 878) (by decide +kernel)⟩
theorem lw_p30 : lw_okq (⟨"FilmPrinter$Maker", "better", "(LFilmPrinter$Matcher;III)I"⟩, 8) := ⟨⟨by decide +kernel, by decide +kernel⟩, List.mem_of_getElem? (i := 359) (by decide +kernel), List.mem_of_getElem? (i := 881) (by decide +kernel), List.mem_of_getElem? (i := 882) (by decide +kernel)⟩
theorem lw_p31 : lw_okq (⟨"FilmPrinter$Maker", "countMissing", "(LFilmPrinter$State;)V"⟩, 8) := ⟨⟨by decide +kernel, by decide +kernel⟩, List.mem_of_getElem? (i := 359) (by decide +kernel), List.mem_of_getElem? (i := 885) (by decide +kernel), List.mem_of_getElem? (i := 886) (by decide +kernel)⟩
def lw_privs_2 : List (MethodName × Nat) := [(⟨"FilmPrinter$Asker", "run", "(II)Z"⟩, 6), (⟨"FilmPrinter$Asker", "push", "(I)Z"⟩, 6), (⟨"FilmPrinter$Asker", "reckon", "(IJJ)Z"⟩, 6), (⟨"FilmPrinter$Edition", "addPlace", "(II)V"⟩, 6), (⟨"FilmPrinter", "hasPlace", "(II)Z"⟩, 12), (⟨"FilmPrinter", "isExplained", "(I)Z"⟩, 12), (⟨"FilmPrinter$Explainer", "countApart", "(LFilmPrinter$State;LFilmPrinter$Edition;)V"⟩, 6), (⟨"FilmPrinter$Explainer", "bestFail", "(LFilmPrinter$Edition;III)I"⟩, 6), (⟨"FilmPrinter$Explainer", "leastBy", "(LFilmPrinter$Edition;IIII)I"⟩, 6), (⟨"FilmPrinter$Explainer", "follow", "(LFilmPrinter$Edition;I)V"⟩, 6), (⟨"FilmPrinter$Matcher", "weigh", "(LFilmPrinter$State;III)V"⟩, 6), (⟨"FilmPrinter$Matcher", "choose", "(LFilmPrinter$State;II)V"⟩, 6), (⟨"FilmPrinter", "makeOne", "()V"⟩, 12), (⟨"FilmPrinter$Maker", "follow", "(LFilmPrinter$State;LFilmPrinter$Matcher;I)V"⟩, 8), (⟨"FilmPrinter$Maker", "better", "(LFilmPrinter$Matcher;III)I"⟩, 8), (⟨"FilmPrinter$Maker", "countMissing", "(LFilmPrinter$State;)V"⟩, 8)]
theorem lw_r2 : ∀ q ∈ lw_privs_2, lw_okq q := List.forall_mem_cons.mpr ⟨lw_p16, List.forall_mem_cons.mpr ⟨lw_p17, List.forall_mem_cons.mpr ⟨lw_p18, List.forall_mem_cons.mpr ⟨lw_p19, List.forall_mem_cons.mpr ⟨lw_p20, List.forall_mem_cons.mpr ⟨lw_p21, List.forall_mem_cons.mpr ⟨lw_p22, List.forall_mem_cons.mpr ⟨lw_p23, List.forall_mem_cons.mpr ⟨lw_p24, List.forall_mem_cons.mpr ⟨lw_p25, List.forall_mem_cons.mpr ⟨lw_p26, List.forall_mem_cons.mpr ⟨lw_p27, List.forall_mem_cons.mpr ⟨lw_p28, List.forall_mem_cons.mpr ⟨lw_p29, List.forall_mem_cons.mpr ⟨lw_p30, List.forall_mem_cons.mpr ⟨lw_p31, fun _ h => absurd h List.not_mem_nil⟩⟩⟩⟩⟩⟩⟩⟩⟩⟩⟩⟩⟩⟩⟩⟩
theorem lw_p32 : lw_okq (⟨"FilmPrinter$Maker", "countOlder", "(LFilmPrinter$State;LFilmPrinter$Matcher;)V"⟩, 8) := ⟨⟨by decide +kernel, by decide +kernel⟩, List.mem_of_getElem? (i := 359) (by decide +kernel), List.mem_of_getElem? (i := 890) (by decide +kernel), List.mem_of_getElem? (i := 891) (by decide +kernel)⟩
theorem lw_p33 : lw_okq (⟨"FilmPrinterModel", "tell", "(I)I"⟩, 46) := ⟨⟨by decide +kernel, by decide +kernel⟩, List.mem_of_getElem? (i := 940) (by decide +kernel), List.mem_of_getElem? (i := 1094) (by decide +kernel), List.mem_of_getElem? (i := 1095) (by decide +kernel)⟩
theorem lw_p34 : lw_okq (⟨"FilmPrinterModel", "forget", "()V"⟩, 46) := ⟨⟨by decide +kernel, by decide +kernel⟩, List.mem_of_getElem? (i := 940) (by decide +kernel), List.mem_of_getElem? (i := 1102) (by decide +kernel), List.mem_of_getElem? (i := 1103) (by decide +kernel)⟩
theorem lw_p35 : lw_okq (⟨"FilmPrinterModel", "isShot", "(I)Z"⟩, 46) := ⟨⟨by decide +kernel, by decide +kernel⟩, List.mem_of_getElem? (i := 940) (by decide +kernel), List.mem_of_getElem? (i := 1123) (by decide +kernel), List.mem_of_getElem? (i := 1124) (by decide +kernel)⟩
theorem lw_p36 : lw_okq (⟨"FilmPrinterModel", "firstOf", "(I)I"⟩, 46) := ⟨⟨by decide +kernel, by decide +kernel⟩, List.mem_of_getElem? (i := 940) (by decide +kernel), List.mem_of_getElem? (i := 1128) (by decide +kernel), List.mem_of_getElem? (i := 1129) (by decide +kernel)⟩
theorem lw_p37 : lw_okq (⟨"FilmPrinterModel", "four", "(I)V"⟩, 46) := ⟨⟨by decide +kernel, by decide +kernel⟩, List.mem_of_getElem? (i := 940) (by decide +kernel), List.mem_of_getElem? (i := 1146) (by decide +kernel), List.mem_of_getElem? (i := 1147) (by decide +kernel)⟩
theorem lw_p38 : lw_okq (⟨"FilmPrinterModel", "begin", "()V"⟩, 46) := ⟨⟨by decide +kernel, by decide +kernel⟩, List.mem_of_getElem? (i := 940) (by decide +kernel), List.mem_of_getElem? (i := 1162) (by decide +kernel), List.mem_of_getElem? (i := 1163) (by decide +kernel)⟩
theorem lw_p39 : lw_okq (⟨"FilmPrinterModel", "next", "()V"⟩, 46) := ⟨⟨by decide +kernel, by decide +kernel⟩, List.mem_of_getElem? (i := 940) (by decide +kernel), List.mem_of_getElem? (i := 1166) (by decide +kernel), List.mem_of_getElem? (i := 1167) (by decide +kernel)⟩
theorem lw_p40 : lw_okq (⟨"FilmPrinterModel", "readClause", "()V"⟩, 46) := ⟨⟨by decide +kernel, by decide +kernel⟩, List.mem_of_getElem? (i := 940) (by decide +kernel), List.mem_of_getElem? (i := 1182) (by decide +kernel), List.mem_of_getElem? (i := 1183) (by decide +kernel)⟩
theorem lw_p41 : lw_okq (⟨"FilmPrinterModel", "headAt", "()I"⟩, 46) := ⟨⟨by decide +kernel, by decide +kernel⟩, List.mem_of_getElem? (i := 940) (by decide +kernel), List.mem_of_getElem? (i := 1186) (by decide +kernel), List.mem_of_getElem? (i := 1187) (by decide +kernel)⟩
theorem lw_p42 : lw_okq (⟨"FilmPrinterModel", "isWord", "(J)Z"⟩, 46) := ⟨⟨by decide +kernel, by decide +kernel⟩, List.mem_of_getElem? (i := 940) (by decide +kernel), List.mem_of_getElem? (i := 1191) (by decide +kernel), List.mem_of_getElem? (i := 1192) (by decide +kernel)⟩
theorem lw_p43 : lw_okq (⟨"FilmPrinterModel", "must", "(Z)V"⟩, 46) := ⟨⟨by decide +kernel, by decide +kernel⟩, List.mem_of_getElem? (i := 940) (by decide +kernel), List.mem_of_getElem? (i := 1197) (by decide +kernel), List.mem_of_getElem? (i := 1198) (by decide +kernel)⟩
theorem lw_p44 : lw_okq (⟨"FilmPrinterModel", "readExpression", "(Z)V"⟩, 46) := ⟨⟨by decide +kernel, by decide +kernel⟩, List.mem_of_getElem? (i := 940) (by decide +kernel), List.mem_of_getElem? (i := 1201) (by decide +kernel), List.mem_of_getElem? (i := 1202) (by decide +kernel)⟩
theorem lw_p45 : lw_okq (⟨"FilmPrinterModel", "readPlain", "()I"⟩, 46) := ⟨⟨by decide +kernel, by decide +kernel⟩, List.mem_of_getElem? (i := 940) (by decide +kernel), List.mem_of_getElem? (i := 1205) (by decide +kernel), List.mem_of_getElem? (i := 1206) (by decide +kernel)⟩
theorem lw_p46 : lw_okq (⟨"FilmPrinterModel", "push", "(II)V"⟩, 46) := ⟨⟨by decide +kernel, by decide +kernel⟩, List.mem_of_getElem? (i := 940) (by decide +kernel), List.mem_of_getElem? (i := 1210) (by decide +kernel), List.mem_of_getElem? (i := 1211) (by decide +kernel)⟩
theorem lw_p47 : lw_okq (⟨"FilmPrinterModel", "isSign", "(I)Z"⟩, 46) := ⟨⟨by decide +kernel, by decide +kernel⟩, List.mem_of_getElem? (i := 940) (by decide +kernel), List.mem_of_getElem? (i := 1214) (by decide +kernel), List.mem_of_getElem? (i := 1215) (by decide +kernel)⟩
def lw_privs_3 : List (MethodName × Nat) := [(⟨"FilmPrinter$Maker", "countOlder", "(LFilmPrinter$State;LFilmPrinter$Matcher;)V"⟩, 8), (⟨"FilmPrinterModel", "tell", "(I)I"⟩, 46), (⟨"FilmPrinterModel", "forget", "()V"⟩, 46), (⟨"FilmPrinterModel", "isShot", "(I)Z"⟩, 46), (⟨"FilmPrinterModel", "firstOf", "(I)I"⟩, 46), (⟨"FilmPrinterModel", "four", "(I)V"⟩, 46), (⟨"FilmPrinterModel", "begin", "()V"⟩, 46), (⟨"FilmPrinterModel", "next", "()V"⟩, 46), (⟨"FilmPrinterModel", "readClause", "()V"⟩, 46), (⟨"FilmPrinterModel", "headAt", "()I"⟩, 46), (⟨"FilmPrinterModel", "isWord", "(J)Z"⟩, 46), (⟨"FilmPrinterModel", "must", "(Z)V"⟩, 46), (⟨"FilmPrinterModel", "readExpression", "(Z)V"⟩, 46), (⟨"FilmPrinterModel", "readPlain", "()I"⟩, 46), (⟨"FilmPrinterModel", "push", "(II)V"⟩, 46), (⟨"FilmPrinterModel", "isSign", "(I)Z"⟩, 46)]
theorem lw_r3 : ∀ q ∈ lw_privs_3, lw_okq q := List.forall_mem_cons.mpr ⟨lw_p32, List.forall_mem_cons.mpr ⟨lw_p33, List.forall_mem_cons.mpr ⟨lw_p34, List.forall_mem_cons.mpr ⟨lw_p35, List.forall_mem_cons.mpr ⟨lw_p36, List.forall_mem_cons.mpr ⟨lw_p37, List.forall_mem_cons.mpr ⟨lw_p38, List.forall_mem_cons.mpr ⟨lw_p39, List.forall_mem_cons.mpr ⟨lw_p40, List.forall_mem_cons.mpr ⟨lw_p41, List.forall_mem_cons.mpr ⟨lw_p42, List.forall_mem_cons.mpr ⟨lw_p43, List.forall_mem_cons.mpr ⟨lw_p44, List.forall_mem_cons.mpr ⟨lw_p45, List.forall_mem_cons.mpr ⟨lw_p46, List.forall_mem_cons.mpr ⟨lw_p47, fun _ h => absurd h List.not_mem_nil⟩⟩⟩⟩⟩⟩⟩⟩⟩⟩⟩⟩⟩⟩⟩⟩
theorem lw_p48 : lw_okq (⟨"FilmPrinterModel", "openBracket", "(I)V"⟩, 46) := ⟨⟨by decide +kernel, by decide +kernel⟩, List.mem_of_getElem? (i := 940) (by decide +kernel), List.mem_of_getElem? (i := 1218) (by decide +kernel), List.mem_of_getElem? (i := 1219) (by decide +kernel)⟩
theorem lw_p49 : lw_okq (⟨"FilmPrinterModel", "readPart", "()I"⟩, 46) := ⟨⟨by decide +kernel, by decide +kernel⟩, List.mem_of_getElem? (i := 940) (by decide +kernel), List.mem_of_getElem? (i := 1222) (by decide +kernel), List.mem_of_getElem? (i := 1223) (by decide +kernel)⟩
theorem lw_p50 : lw_okq (⟨"FilmPrinterModel", "partAt", "()I"⟩, 46) := ⟨⟨by decide +kernel, by decide +kernel⟩, List.mem_of_getElem? (i := 940) (by decide +kernel), List.mem_of_getElem? (i := 1226) (by decide +kernel), List.mem_of_getElem? (i := 1227) (by decide +kernel)⟩
theorem lw_p51 : lw_okq (⟨"FilmPrinterModel", "leaf", "(ZII)V"⟩, 46) := ⟨⟨by decide +kernel, by decide +kernel⟩, List.mem_of_getElem? (i := 940) (by decide +kernel), List.mem_of_getElem? (i := 1238) (by decide +kernel), List.mem_of_getElem? (i := 1239) (by decide +kernel)⟩
theorem lw_p52 : lw_okq (⟨"FilmPrinterModel", "emit", "(II)V"⟩, 46) := ⟨⟨by decide +kernel, by decide +kernel⟩, List.mem_of_getElem? (i := 940) (by decide +kernel), List.mem_of_getElem? (i := 1242) (by decide +kernel), List.mem_of_getElem? (i := 1243) (by decide +kernel)⟩
theorem lw_p53 : lw_okq (⟨"FilmPrinterModel", "behindSum", "(Z)I"⟩, 46) := ⟨⟨by decide +kernel, by decide +kernel⟩, List.mem_of_getElem? (i := 940) (by decide +kernel), List.mem_of_getElem? (i := 1246) (by decide +kernel), List.mem_of_getElem? (i := 1247) (by decide +kernel)⟩
theorem lw_p54 : lw_okq (⟨"FilmPrinterModel", "settle", "(I)V"⟩, 46) := ⟨⟨by decide +kernel, by decide +kernel⟩, List.mem_of_getElem? (i := 940) (by decide +kernel), List.mem_of_getElem? (i := 1253) (by decide +kernel), List.mem_of_getElem? (i := 1254) (by decide +kernel)⟩
theorem lw_p55 : lw_okq (⟨"FilmPrinterModel", "inner", "()I"⟩, 46) := ⟨⟨by decide +kernel, by decide +kernel⟩, List.mem_of_getElem? (i := 940) (by decide +kernel), List.mem_of_getElem? (i := 1257) (by decide +kernel), List.mem_of_getElem? (i := 1258) (by decide +kernel)⟩
theorem lw_p56 : lw_okq (⟨"FilmPrinterModel", "isCompared", "()Z"⟩, 46) := ⟨⟨by decide +kernel, by decide +kernel⟩, List.mem_of_getElem? (i := 940) (by decide +kernel), List.mem_of_getElem? (i := 1261) (by decide +kernel), List.mem_of_getElem? (i := 1262) (by decide +kernel)⟩
theorem lw_p57 : lw_okq (⟨"FilmPrinterModel", "behindTest", "()I"⟩, 46) := ⟨⟨by decide +kernel, by decide +kernel⟩, List.mem_of_getElem? (i := 940) (by decide +kernel), List.mem_of_getElem? (i := 1269) (by decide +kernel), List.mem_of_getElem? (i := 1270) (by decide +kernel)⟩
theorem lw_p58 : lw_okq (⟨"FilmPrinterModel", "lightOf", "(II)I"⟩, 46) := ⟨⟨by decide +kernel, by decide +kernel⟩, List.mem_of_getElem? (i := 940) (by decide +kernel), List.mem_of_getElem? (i := 1284) (by decide +kernel), List.mem_of_getElem? (i := 1285) (by decide +kernel)⟩
theorem lw_p59 : lw_okq (⟨"FilmPrinterModel", "ask", "(II)V"⟩, 46) := ⟨⟨by decide +kernel, by decide +kernel⟩, List.mem_of_getElem? (i := 940) (by decide +kernel), List.mem_of_getElem? (i := 1288) (by decide +kernel), List.mem_of_getElem? (i := 1289) (by decide +kernel)⟩
theorem lw_p60 : lw_okq (⟨"FilmPrinterModel", "find", "(IIII)I"⟩, 46) := ⟨⟨by decide +kernel, by decide +kernel⟩, List.mem_of_getElem? (i := 940) (by decide +kernel), List.mem_of_getElem? (i := 1292) (by decide +kernel), List.mem_of_getElem? (i := 1293) (by decide +kernel)⟩
theorem lw_p61 : lw_okq (⟨"FilmPrinterModel", "isSo", "(I)Z"⟩, 46) := ⟨⟨by decide +kernel, by decide +kernel⟩, List.mem_of_getElem? (i := 940) (by decide +kernel), List.mem_of_getElem? (i := 1296) (by decide +kernel), List.mem_of_getElem? (i := 1297) (by decide +kernel)⟩
theorem lw_p62 : lw_okq (⟨"FilmPrinterModel", "reckonAll", "(II)V"⟩, 46) := ⟨⟨by decide +kernel, by decide +kernel⟩, List.mem_of_getElem? (i := 940) (by decide +kernel), List.mem_of_getElem? (i := 1300) (by decide +kernel), List.mem_of_getElem? (i := 1301) (by decide +kernel)⟩
theorem lw_p63 : lw_okq (⟨"FilmPrinterModel", "reckon", "(IJJ)J"⟩, 46) := ⟨⟨by decide +kernel, by decide +kernel⟩, List.mem_of_getElem? (i := 940) (by decide +kernel), List.mem_of_getElem? (i := 1304) (by decide +kernel), List.mem_of_getElem? (i := 1305) (by decide +kernel)⟩
def lw_privs_4 : List (MethodName × Nat) := [(⟨"FilmPrinterModel", "openBracket", "(I)V"⟩, 46), (⟨"FilmPrinterModel", "readPart", "()I"⟩, 46), (⟨"FilmPrinterModel", "partAt", "()I"⟩, 46), (⟨"FilmPrinterModel", "leaf", "(ZII)V"⟩, 46), (⟨"FilmPrinterModel", "emit", "(II)V"⟩, 46), (⟨"FilmPrinterModel", "behindSum", "(Z)I"⟩, 46), (⟨"FilmPrinterModel", "settle", "(I)V"⟩, 46), (⟨"FilmPrinterModel", "inner", "()I"⟩, 46), (⟨"FilmPrinterModel", "isCompared", "()Z"⟩, 46), (⟨"FilmPrinterModel", "behindTest", "()I"⟩, 46), (⟨"FilmPrinterModel", "lightOf", "(II)I"⟩, 46), (⟨"FilmPrinterModel", "ask", "(II)V"⟩, 46), (⟨"FilmPrinterModel", "find", "(IIII)I"⟩, 46), (⟨"FilmPrinterModel", "isSo", "(I)Z"⟩, 46), (⟨"FilmPrinterModel", "reckonAll", "(II)V"⟩, 46), (⟨"FilmPrinterModel", "reckon", "(IJJ)J"⟩, 46)]
theorem lw_r4 : ∀ q ∈ lw_privs_4, lw_okq q := List.forall_mem_cons.mpr ⟨lw_p48, List.forall_mem_cons.mpr ⟨lw_p49, List.forall_mem_cons.mpr ⟨lw_p50, List.forall_mem_cons.mpr ⟨lw_p51, List.forall_mem_cons.mpr ⟨lw_p52, List.forall_mem_cons.mpr ⟨lw_p53, List.forall_mem_cons.mpr ⟨lw_p54, List.forall_mem_cons.mpr ⟨lw_p55, List.forall_mem_cons.mpr ⟨lw_p56, List.forall_mem_cons.mpr ⟨lw_p57, List.forall_mem_cons.mpr ⟨lw_p58, List.forall_mem_cons.mpr ⟨lw_p59, List.forall_mem_cons.mpr ⟨lw_p60, List.forall_mem_cons.mpr ⟨lw_p61, List.forall_mem_cons.mpr ⟨lw_p62, List.forall_mem_cons.mpr ⟨lw_p63, fun _ h => absurd h List.not_mem_nil⟩⟩⟩⟩⟩⟩⟩⟩⟩⟩⟩⟩⟩⟩⟩⟩
theorem lw_p64 : lw_okq (⟨"FilmPrinterModel", "titleOf", "(II)I"⟩, 46) := ⟨⟨by decide +kernel, by decide +kernel⟩, List.mem_of_getElem? (i := 940) (by decide +kernel), List.mem_of_getElem? (i := 1310) (by decide +kernel), List.mem_of_getElem? (i := 1311) (by decide +kernel)⟩
theorem lw_p65 : lw_okq (⟨"FilmPrinterModel", "cutOf", "(II)I"⟩, 46) := ⟨⟨by decide +kernel, by decide +kernel⟩, List.mem_of_getElem? (i := 940) (by decide +kernel), List.mem_of_getElem? (i := 1314) (by decide +kernel), List.mem_of_getElem? (i := 1315) (by decide +kernel)⟩
theorem lw_p66 : lw_okq (⟨"FilmPrinterModel", "findEdition", "(I)V"⟩, 46) := ⟨⟨by decide +kernel, by decide +kernel⟩, List.mem_of_getElem? (i := 940) (by decide +kernel), List.mem_of_getElem? (i := 1322) (by decide +kernel), List.mem_of_getElem? (i := 1323) (by decide +kernel)⟩
theorem lw_p67 : lw_okq (⟨"FilmPrinterModel", "moved", "(II)I"⟩, 46) := ⟨⟨by decide +kernel, by decide +kernel⟩, List.mem_of_getElem? (i := 940) (by decide +kernel), List.mem_of_getElem? (i := 1339) (by decide +kernel), List.mem_of_getElem? (i := 1340) (by decide +kernel)⟩
theorem lw_p68 : lw_okq (⟨"FilmPrinterModel", "printOf", "(II)I"⟩, 46) := ⟨⟨by decide +kernel, by decide +kernel⟩, List.mem_of_getElem? (i := 940) (by decide +kernel), List.mem_of_getElem? (i := 1343) (by decide +kernel), List.mem_of_getElem? (i := 1344) (by decide +kernel)⟩
theorem lw_p69 : lw_okq (⟨"FilmPrinterModel", "greyOf", "(I)I"⟩, 46) := ⟨⟨by decide +kernel, by decide +kernel⟩, List.mem_of_getElem? (i := 940) (by decide +kernel), List.mem_of_getElem? (i := 1347) (by decide +kernel), List.mem_of_getElem? (i := 1348) (by decide +kernel)⟩
theorem lw_p70 : lw_okq (⟨"FilmPrinterModel", "explains", "(I)Z"⟩, 46) := ⟨⟨by decide +kernel, by decide +kernel⟩, List.mem_of_getElem? (i := 940) (by decide +kernel), List.mem_of_getElem? (i := 1366) (by decide +kernel), List.mem_of_getElem? (i := 1367) (by decide +kernel)⟩
theorem lw_p71 : lw_okq (⟨"FilmPrinterModel", "goOn", "(II)V"⟩, 46) := ⟨⟨by decide +kernel, by decide +kernel⟩, List.mem_of_getElem? (i := 940) (by decide +kernel), List.mem_of_getElem? (i := 1370) (by decide +kernel), List.mem_of_getElem? (i := 1371) (by decide +kernel)⟩
theorem lw_p72 : lw_okq (⟨"FilmPrinterModel", "apart", "(II)I"⟩, 46) := ⟨⟨by decide +kernel, by decide +kernel⟩, List.mem_of_getElem? (i := 940) (by decide +kernel), List.mem_of_getElem? (i := 1374) (by decide +kernel), List.mem_of_getElem? (i := 1375) (by decide +kernel)⟩
theorem lw_p73 : lw_okq (⟨"FilmPrinterModel", "hear", "(I)I"⟩, 46) := ⟨⟨by decide +kernel, by decide +kernel⟩, List.mem_of_getElem? (i := 940) (by decide +kernel), List.mem_of_getElem? (i := 1390) (by decide +kernel), List.mem_of_getElem? (i := 1391) (by decide +kernel)⟩
theorem lw_p74 : lw_okq (⟨"FilmPrinterModel", "frames", "()I"⟩, 46) := ⟨⟨by decide +kernel, by decide +kernel⟩, List.mem_of_getElem? (i := 940) (by decide +kernel), List.mem_of_getElem? (i := 1394) (by decide +kernel), List.mem_of_getElem? (i := 1395) (by decide +kernel)⟩
theorem lw_p75 : lw_okq (⟨"FilmPrinterModel", "shotWith", "(I)I"⟩, 46) := ⟨⟨by decide +kernel, by decide +kernel⟩, List.mem_of_getElem? (i := 940) (by decide +kernel), List.mem_of_getElem? (i := 1398) (by decide +kernel), List.mem_of_getElem? (i := 1399) (by decide +kernel)⟩
theorem lw_p76 : lw_okq (⟨"FilmPrinterModel", "soundOf", "(I)I"⟩, 46) := ⟨⟨by decide +kernel, by decide +kernel⟩, List.mem_of_getElem? (i := 940) (by decide +kernel), List.mem_of_getElem? (i := 1406) (by decide +kernel), List.mem_of_getElem? (i := 1407) (by decide +kernel)⟩
theorem lw_p77 : lw_okq (⟨"FilmPrinterModel", "findMatches", "(I)V"⟩, 46) := ⟨⟨by decide +kernel, by decide +kernel⟩, List.mem_of_getElem? (i := 940) (by decide +kernel), List.mem_of_getElem? (i := 1421) (by decide +kernel), List.mem_of_getElem? (i := 1422) (by decide +kernel)⟩
theorem lw_p78 : lw_okq (⟨"FilmPrinterModel", "findGreys", "()V"⟩, 46) := ⟨⟨by decide +kernel, by decide +kernel⟩, List.mem_of_getElem? (i := 940) (by decide +kernel), List.mem_of_getElem? (i := 1425) (by decide +kernel), List.mem_of_getElem? (i := 1426) (by decide +kernel)⟩
theorem lw_p79 : lw_okq (⟨"FilmPrinterModel", "isAlike", "(III)Z"⟩, 46) := ⟨⟨by decide +kernel, by decide +kernel⟩, List.mem_of_getElem? (i := 940) (by decide +kernel), List.mem_of_getElem? (i := 1429) (by decide +kernel), List.mem_of_getElem? (i := 1430) (by decide +kernel)⟩
def lw_privs_5 : List (MethodName × Nat) := [(⟨"FilmPrinterModel", "titleOf", "(II)I"⟩, 46), (⟨"FilmPrinterModel", "cutOf", "(II)I"⟩, 46), (⟨"FilmPrinterModel", "findEdition", "(I)V"⟩, 46), (⟨"FilmPrinterModel", "moved", "(II)I"⟩, 46), (⟨"FilmPrinterModel", "printOf", "(II)I"⟩, 46), (⟨"FilmPrinterModel", "greyOf", "(I)I"⟩, 46), (⟨"FilmPrinterModel", "explains", "(I)Z"⟩, 46), (⟨"FilmPrinterModel", "goOn", "(II)V"⟩, 46), (⟨"FilmPrinterModel", "apart", "(II)I"⟩, 46), (⟨"FilmPrinterModel", "hear", "(I)I"⟩, 46), (⟨"FilmPrinterModel", "frames", "()I"⟩, 46), (⟨"FilmPrinterModel", "shotWith", "(I)I"⟩, 46), (⟨"FilmPrinterModel", "soundOf", "(I)I"⟩, 46), (⟨"FilmPrinterModel", "findMatches", "(I)V"⟩, 46), (⟨"FilmPrinterModel", "findGreys", "()V"⟩, 46), (⟨"FilmPrinterModel", "isAlike", "(III)Z"⟩, 46)]
theorem lw_r5 : ∀ q ∈ lw_privs_5, lw_okq q := List.forall_mem_cons.mpr ⟨lw_p64, List.forall_mem_cons.mpr ⟨lw_p65, List.forall_mem_cons.mpr ⟨lw_p66, List.forall_mem_cons.mpr ⟨lw_p67, List.forall_mem_cons.mpr ⟨lw_p68, List.forall_mem_cons.mpr ⟨lw_p69, List.forall_mem_cons.mpr ⟨lw_p70, List.forall_mem_cons.mpr ⟨lw_p71, List.forall_mem_cons.mpr ⟨lw_p72, List.forall_mem_cons.mpr ⟨lw_p73, List.forall_mem_cons.mpr ⟨lw_p74, List.forall_mem_cons.mpr ⟨lw_p75, List.forall_mem_cons.mpr ⟨lw_p76, List.forall_mem_cons.mpr ⟨lw_p77, List.forall_mem_cons.mpr ⟨lw_p78, List.forall_mem_cons.mpr ⟨lw_p79, fun _ h => absurd h List.not_mem_nil⟩⟩⟩⟩⟩⟩⟩⟩⟩⟩⟩⟩⟩⟩⟩⟩
theorem lw_p80 : lw_okq (⟨"FilmPrinterModel", "findOne", "()V"⟩, 46) := ⟨⟨by decide +kernel, by decide +kernel⟩, List.mem_of_getElem? (i := 940) (by decide +kernel), List.mem_of_getElem? (i := 1442) (by decide +kernel), List.mem_of_getElem? (i := 1443) (by decide +kernel)⟩
theorem lw_p81 : lw_okq (⟨"FilmPrinterModel", "goFrom", "(II)V"⟩, 46) := ⟨⟨by decide +kernel, by decide +kernel⟩, List.mem_of_getElem? (i := 940) (by decide +kernel), List.mem_of_getElem? (i := 1446) (by decide +kernel), List.mem_of_getElem? (i := 1447) (by decide +kernel)⟩
theorem lw_p82 : lw_okq (⟨"FilmPrinterModel", "scratch", "(II)I"⟩, 46) := ⟨⟨by decide +kernel, by decide +kernel⟩, List.mem_of_getElem? (i := 940) (by decide +kernel), List.mem_of_getElem? (i := 1450) (by decide +kernel), List.mem_of_getElem? (i := 1451) (by decide +kernel)⟩
def lw_privs_6 : List (MethodName × Nat) := [(⟨"FilmPrinterModel", "findOne", "()V"⟩, 46), (⟨"FilmPrinterModel", "goFrom", "(II)V"⟩, 46), (⟨"FilmPrinterModel", "scratch", "(II)I"⟩, 46)]
theorem lw_r6 : ∀ q ∈ lw_privs_6, lw_okq q := List.forall_mem_cons.mpr ⟨lw_p80, List.forall_mem_cons.mpr ⟨lw_p81, List.forall_mem_cons.mpr ⟨lw_p82, fun _ h => absurd h List.not_mem_nil⟩⟩⟩
def lw_privs : List (MethodName × Nat) := lw_privs_1 ++ (lw_privs_2 ++ (lw_privs_3 ++ (lw_privs_4 ++ (lw_privs_5 ++ (lw_privs_6)))))
def lw_tbl : List Cond := k2_sels lw_privs ++ tables_1
theorem lw_privs_ok : ∀ q ∈ lw_privs, lw_okq q := by
  show ∀ q ∈ lw_privs_1 ++ (lw_privs_2 ++ (lw_privs_3 ++ (lw_privs_4 ++ (lw_privs_5 ++ (lw_privs_6))))), lw_okq q
  exact List.forall_mem_append.mpr ⟨lw_r1, List.forall_mem_append.mpr ⟨lw_r2, List.forall_mem_append.mpr ⟨lw_r3, List.forall_mem_append.mpr ⟨lw_r4, List.forall_mem_append.mpr ⟨lw_r5, lw_r6⟩⟩⟩⟩⟩
end
section
-- the classes: names, fields in the order of the slots (declaring class, name, descriptor, final), their types
def x_tbl : List Cond := lw_tbl.filter goodWord
def R_Asker : String := "FilmPrinter$Asker"
def F_Asker : u_T := fun k => match k with
  | 0 => ("FilmPrinter$Asker", "stack", "[I", true)
  | 1 => ("FilmPrinter$Asker", "traits", "[I", true)
  | 2 => ("FilmPrinter$Asker", "top", "I", false)
  | 3 => ("FilmPrinter$Asker", "light", "I", false)
  | 4 => ("FilmPrinter$Asker", "title", "I", false)
  | _ => ("FilmPrinter$Asker", "cut", "Z", false)
def t_Asker : Nat → FieldType := fun k => match k with
  | 0 => .array .int
  | 1 => .array .int
  | 2 => .int
  | 3 => .int
  | 4 => .int
  | _ => .boolean
theorem n_Asker : ∀ a, a < 6 → ∀ b, b < 6 → a ≠ b → (F_Asker a).2.1 ≠ (F_Asker b).2.1 := by decide +kernel
theorem t_Asker_ok : ∀ k, k < 6 → parseFieldDescriptor (F_Asker k).2.2.1 = some (t_Asker k) := by decide +kernel
theorem i_Asker : ∀ w ∈ u_ws R_Asker F_Asker 6, w ∈ lw_tbl := by decide +kernel
theorem g_Asker : ∀ w ∈ u_ws R_Asker F_Asker 6, goodWord w = true := by decide +kernel
def R_Edition : String := "FilmPrinter$Edition"
def F_Edition : u_T := fun k => match k with
  | 0 => ("FilmPrinter$Edition", "placeCount", "I", false)
  | 1 => ("FilmPrinter$Edition", "keptCount", "I", false)
  | 2 => ("FilmPrinter$Edition", "shotAt", "[I", true)
  | 3 => ("FilmPrinter$Edition", "frameAt", "[I", true)
  | 4 => ("FilmPrinter$Edition", "partAt", "[I", true)
  | _ => ("FilmPrinter$Edition", "lights", "[I", true)
def t_Edition : Nat → FieldType := fun k => match k with
  | 0 => .int
  | 1 => .int
  | 2 => .array .int
  | 3 => .array .int
  | 4 => .array .int
  | _ => .array .int
theorem n_Edition : ∀ a, a < 6 → ∀ b, b < 6 → a ≠ b → (F_Edition a).2.1 ≠ (F_Edition b).2.1 := by decide +kernel
theorem t_Edition_ok : ∀ k, k < 6 → parseFieldDescriptor (F_Edition k).2.2.1 = some (t_Edition k) := by decide +kernel
theorem i_Edition : ∀ w ∈ u_ws R_Edition F_Edition 6, w ∈ lw_tbl := by decide +kernel
theorem g_Edition : ∀ w ∈ u_ws R_Edition F_Edition 6, goodWord w = true := by decide +kernel
def R_Explainer : String := "FilmPrinter$Explainer"
def F_Explainer : u_T := fun k => match k with
  | 0 => ("FilmPrinter$Explainer", "apart", "[I", true)
  | 1 => ("FilmPrinter$Explainer", "least", "[I", true)
  | 2 => ("FilmPrinter$Explainer", "way", "[I", true)
  | 3 => ("FilmPrinter$Explainer", "cost", "I", false)
  | 4 => ("FilmPrinter$Explainer", "failCount", "I", false)
  | _ => ("FilmPrinter$Explainer", "apartCount", "I", false)
def t_Explainer : Nat → FieldType := fun k => match k with
  | 0 => .array .int
  | 1 => .array .int
  | 2 => .array .int
  | 3 => .int
  | 4 => .int
  | _ => .int
theorem n_Explainer : ∀ a, a < 6 → ∀ b, b < 6 → a ≠ b → (F_Explainer a).2.1 ≠ (F_Explainer b).2.1 := by decide +kernel
theorem t_Explainer_ok : ∀ k, k < 6 → parseFieldDescriptor (F_Explainer k).2.2.1 = some (t_Explainer k) := by decide +kernel
theorem i_Explainer : ∀ w ∈ u_ws R_Explainer F_Explainer 6, w ∈ lw_tbl := by decide +kernel
theorem g_Explainer : ∀ w ∈ u_ws R_Explainer F_Explainer 6, goodWord w = true := by decide +kernel
def R_Law : String := "FilmPrinter$Law"
def F_Law : u_T := fun k => match k with
  | 0 => ("FilmPrinter$Law", "clauseCount", "I", false)
  | 1 => ("FilmPrinter$Law", "codeLength", "I", false)
  | 2 => ("FilmPrinter$Law", "heads", "[I", true)
  | 3 => ("FilmPrinter$Law", "starts", "[I", true)
  | 4 => ("FilmPrinter$Law", "steps", "[I", true)
  | _ => ("FilmPrinter$Law", "values", "[I", true)
def t_Law : Nat → FieldType := fun k => match k with
  | 0 => .int
  | 1 => .int
  | 2 => .array .int
  | 3 => .array .int
  | 4 => .array .int
  | _ => .array .int
theorem n_Law : ∀ a, a < 6 → ∀ b, b < 6 → a ≠ b → (F_Law a).2.1 ≠ (F_Law b).2.1 := by decide +kernel
theorem t_Law_ok : ∀ k, k < 6 → parseFieldDescriptor (F_Law k).2.2.1 = some (t_Law k) := by decide +kernel
theorem i_Law : ∀ w ∈ u_ws R_Law F_Law 6, w ∈ lw_tbl := by decide +kernel
theorem g_Law : ∀ w ∈ u_ws R_Law F_Law 6, goodWord w = true := by decide +kernel
def R_Maker : String := "FilmPrinter$Maker"
def F_Maker : u_T := fun k => match k with
  | 0 => ("FilmPrinter$Maker", "leastBehind0", "[I", true)
  | 1 => ("FilmPrinter$Maker", "leastBehind1", "[I", true)
  | 2 => ("FilmPrinter$Maker", "taken", "[I", true)
  | 3 => ("FilmPrinter$Maker", "cost", "I", false)
  | 4 => ("FilmPrinter$Maker", "seamCount", "I", false)
  | 5 => ("FilmPrinter$Maker", "missingCount", "I", false)
  | 6 => ("FilmPrinter$Maker", "longestMissing", "I", false)
  | _ => ("FilmPrinter$Maker", "olderCount", "I", false)
def t_Maker : Nat → FieldType := fun k => match k with
  | 0 => .array .int
  | 1 => .array .int
  | 2 => .array .int
  | 3 => .int
  | 4 => .int
  | 5 => .int
  | 6 => .int
  | _ => .int
theorem n_Maker : ∀ a, a < 8 → ∀ b, b < 8 → a ≠ b → (F_Maker a).2.1 ≠ (F_Maker b).2.1 := by decide +kernel
theorem t_Maker_ok : ∀ k, k < 8 → parseFieldDescriptor (F_Maker k).2.2.1 = some (t_Maker k) := by decide +kernel
theorem i_Maker : ∀ w ∈ u_ws R_Maker F_Maker 8, w ∈ lw_tbl := by decide +kernel
theorem g_Maker : ∀ w ∈ u_ws R_Maker F_Maker 8, goodWord w = true := by decide +kernel
def R_Matcher : String := "FilmPrinter$Matcher"
def F_Matcher : u_T := fun k => match k with
  | 0 => ("FilmPrinter$Matcher", "frameOf", "[I", true)
  | 1 => ("FilmPrinter$Matcher", "scratchOf", "[I", true)
  | 2 => ("FilmPrinter$Matcher", "matchedCounts", "[I", true)
  | 3 => ("FilmPrinter$Matcher", "fresh", "[Z", true)
  | 4 => ("FilmPrinter$Matcher", "most", "[I", true)
  | _ => ("FilmPrinter$Matcher", "worthwhile", "[I", true)
def t_Matcher : Nat → FieldType := fun k => match k with
  | 0 => .array .int
  | 1 => .array .int
  | 2 => .array .int
  | 3 => .array .boolean
  | 4 => .array .int
  | _ => .array .int
theorem n_Matcher : ∀ a, a < 6 → ∀ b, b < 6 → a ≠ b → (F_Matcher a).2.1 ≠ (F_Matcher b).2.1 := by decide +kernel
theorem t_Matcher_ok : ∀ k, k < 6 → parseFieldDescriptor (F_Matcher k).2.2.1 = some (t_Matcher k) := by decide +kernel
theorem i_Matcher : ∀ w ∈ u_ws R_Matcher F_Matcher 6, w ∈ lw_tbl := by decide +kernel
theorem g_Matcher : ∀ w ∈ u_ws R_Matcher F_Matcher 6, goodWord w = true := by decide +kernel
def R_Projector : String := "FilmPrinter$Projector"
def F_Projector : u_T := fun k => match k with
  | 0 => ("FilmPrinter$Projector", "jumps", "[I", true)
  | 1 => ("FilmPrinter$Projector", "jumpCount", "I", false)
  | 2 => ("FilmPrinter$Projector", "offCount", "I", false)
  | 3 => ("FilmPrinter$Projector", "joinCount", "I", false)
  | _ => ("FilmPrinter$Projector", "loudCount", "I", false)
def t_Projector : Nat → FieldType := fun k => match k with
  | 0 => .array .int
  | 1 => .int
  | 2 => .int
  | 3 => .int
  | _ => .int
theorem n_Projector : ∀ a, a < 5 → ∀ b, b < 5 → a ≠ b → (F_Projector a).2.1 ≠ (F_Projector b).2.1 := by decide +kernel
theorem t_Projector_ok : ∀ k, k < 5 → parseFieldDescriptor (F_Projector k).2.2.1 = some (t_Projector k) := by decide +kernel
theorem i_Projector : ∀ w ∈ u_ws R_Projector F_Projector 5, w ∈ lw_tbl := by decide +kernel
theorem g_Projector : ∀ w ∈ u_ws R_Projector F_Projector 5, goodWord w = true := by decide +kernel
def R_Reader : String := "FilmPrinter$Reader"
def F_Reader : u_T := fun k => match k with
  | 0 => ("FilmPrinter$Reader", "draft", "LFilmPrinter$Law;", true)
  | 1 => ("FilmPrinter$Reader", "kinds", "[I", true)
  | 2 => ("FilmPrinter$Reader", "values", "[I", true)
  | 3 => ("FilmPrinter$Reader", "places", "[I", true)
  | 4 => ("FilmPrinter$Reader", "tokenCount", "I", false)
  | 5 => ("FilmPrinter$Reader", "next", "I", false)
  | _ => ("FilmPrinter$Reader", "partCount", "I", false)
def t_Reader : Nat → FieldType := fun k => match k with
  | 0 => .object "FilmPrinter$Law"
  | 1 => .array .int
  | 2 => .array .int
  | 3 => .array .int
  | 4 => .int
  | 5 => .int
  | _ => .int
theorem n_Reader : ∀ a, a < 7 → ∀ b, b < 7 → a ≠ b → (F_Reader a).2.1 ≠ (F_Reader b).2.1 := by decide +kernel
theorem t_Reader_ok : ∀ k, k < 7 → parseFieldDescriptor (F_Reader k).2.2.1 = some (t_Reader k) := by decide +kernel
theorem i_Reader : ∀ w ∈ u_ws R_Reader F_Reader 7, w ∈ lw_tbl := by decide +kernel
theorem g_Reader : ∀ w ∈ u_ws R_Reader F_Reader 7, goodWord w = true := by decide +kernel
def R_State : String := "FilmPrinter$State"
def F_State : u_T := fun k => match k with
  | 0 => ("FilmPrinter$State", "shotCount", "I", false)
  | 1 => ("FilmPrinter$State", "frameCount", "I", false)
  | 2 => ("FilmPrinter$State", "seenCount", "I", false)
  | 3 => ("FilmPrinter$State", "shots", "[I", true)
  | 4 => ("FilmPrinter$State", "frameGreys", "[I", true)
  | 5 => ("FilmPrinter$State", "frameShots", "[I", true)
  | 6 => ("FilmPrinter$State", "terms", "[I", true)
  | 7 => ("FilmPrinter$State", "law", "LFilmPrinter$Law;", true)
  | 8 => ("FilmPrinter$State", "fails", "[I", true)
  | 9 => ("FilmPrinter$State", "seen", "[I", true)
  | 10 => ("FilmPrinter$State", "copyCounts", "[I", true)
  | 11 => ("FilmPrinter$State", "copyGreys", "[I", true)
  | 12 => ("FilmPrinter$State", "copyScratches", "[I", true)
  | 13 => ("FilmPrinter$State", "pairCounts", "[I", true)
  | _ => ("FilmPrinter$State", "rights", "[I", true)
def t_State : Nat → FieldType := fun k => match k with
  | 0 => .int
  | 1 => .int
  | 2 => .int
  | 3 => .array .int
  | 4 => .array .int
  | 5 => .array .int
  | 6 => .array .int
  | 7 => .object "FilmPrinter$Law"
  | 8 => .array .int
  | 9 => .array .int
  | 10 => .array .int
  | 11 => .array .int
  | 12 => .array .int
  | 13 => .array .int
  | _ => .array .int
theorem n_State : ∀ a, a < 15 → ∀ b, b < 15 → a ≠ b → (F_State a).2.1 ≠ (F_State b).2.1 := by decide +kernel
theorem t_State_ok : ∀ k, k < 15 → parseFieldDescriptor (F_State k).2.2.1 = some (t_State k) := by decide +kernel
theorem i_State : ∀ w ∈ u_ws R_State F_State 15, w ∈ lw_tbl := by decide +kernel
theorem g_State : ∀ w ∈ u_ws R_State F_State 15, goodWord w = true := by decide +kernel
def R_Tape : String := "FilmPrinter$Tape"
def F_Tape : u_T := fun k => match k with
  | 0 => ("FilmPrinter$Tape", "bytes", "[I", true)
  | _ => ("FilmPrinter$Tape", "length", "I", false)
def t_Tape : Nat → FieldType := fun k => match k with
  | 0 => .array .int
  | _ => .int
theorem n_Tape : ∀ a, a < 2 → ∀ b, b < 2 → a ≠ b → (F_Tape a).2.1 ≠ (F_Tape b).2.1 := by decide +kernel
theorem t_Tape_ok : ∀ k, k < 2 → parseFieldDescriptor (F_Tape k).2.2.1 = some (t_Tape k) := by decide +kernel
theorem i_Tape : ∀ w ∈ u_ws R_Tape F_Tape 2, w ∈ lw_tbl := by decide +kernel
theorem g_Tape : ∀ w ∈ u_ws R_Tape F_Tape 2, goodWord w = true := by decide +kernel
def R_Fp : String := "FilmPrinter"
def F_Fp : u_T := fun k => match k with
  | 0 => ("FilmPrinter", "now", "LFilmPrinter$State;", true)
  | 1 => ("FilmPrinter", "images", "[LFilmPrinter$State;", true)
  | 2 => ("FilmPrinter", "tape", "LFilmPrinter$Tape;", true)
  | 3 => ("FilmPrinter", "reader", "LFilmPrinter$Reader;", true)
  | 4 => ("FilmPrinter", "asker", "LFilmPrinter$Asker;", true)
  | 5 => ("FilmPrinter", "film", "LFilmPrinter$Edition;", true)
  | 6 => ("FilmPrinter", "explainer", "LFilmPrinter$Explainer;", true)
  | 7 => ("FilmPrinter", "projector", "LFilmPrinter$Projector;", true)
  | 8 => ("FilmPrinter", "matcher", "LFilmPrinter$Matcher;", true)
  | 9 => ("FilmPrinter", "maker", "LFilmPrinter$Maker;", true)
  | 10 => ("FilmPrinter", "faultPlace", "I", false)
  | _ => ("FilmPrinter", "refusedBy", "I", false)
def t_Fp : Nat → FieldType := fun k => match k with
  | 0 => .object "FilmPrinter$State"
  | 1 => .array (.object "FilmPrinter$State")
  | 2 => .object "FilmPrinter$Tape"
  | 3 => .object "FilmPrinter$Reader"
  | 4 => .object "FilmPrinter$Asker"
  | 5 => .object "FilmPrinter$Edition"
  | 6 => .object "FilmPrinter$Explainer"
  | 7 => .object "FilmPrinter$Projector"
  | 8 => .object "FilmPrinter$Matcher"
  | 9 => .object "FilmPrinter$Maker"
  | 10 => .int
  | _ => .int
theorem n_Fp : ∀ a, a < 12 → ∀ b, b < 12 → a ≠ b → (F_Fp a).2.1 ≠ (F_Fp b).2.1 := by decide +kernel
theorem t_Fp_ok : ∀ k, k < 12 → parseFieldDescriptor (F_Fp k).2.2.1 = some (t_Fp k) := by decide +kernel
theorem i_Fp : ∀ w ∈ u_ws R_Fp F_Fp 12, w ∈ lw_tbl := by decide +kernel
theorem g_Fp : ∀ w ∈ u_ws R_Fp F_Fp 12, goodWord w = true := by decide +kernel
def R_Mod : String := "FilmPrinterModel"
def F_Mod : u_T := fun k => match k with
  | 0 => ("FilmPrinterModel", "thrown", "I", false)
  | 1 => ("FilmPrinterModel", "status", "I", false)
  | 2 => ("FilmPrinterModel", "row", "[I", true)
  | 3 => ("FilmPrinterModel", "images", "[I", true)
  | 4 => ("FilmPrinterModel", "isKept", "[Z", true)
  | 5 => ("FilmPrinterModel", "tape", "[I", true)
  | 6 => ("FilmPrinterModel", "taped", "I", false)
  | 7 => ("FilmPrinterModel", "from", "I", false)
  | 8 => ("FilmPrinterModel", "to", "I", false)
  | 9 => ("FilmPrinterModel", "sort", "I", false)
  | 10 => ("FilmPrinterModel", "worth", "J", false)
  | 11 => ("FilmPrinterModel", "fault", "I", false)
  | 12 => ("FilmPrinterModel", "bad", "Z", false)
  | 13 => ("FilmPrinterModel", "nClauses", "I", false)
  | 14 => ("FilmPrinterModel", "nClause", "[I", true)
  | 15 => ("FilmPrinterModel", "nCode", "I", false)
  | 16 => ("FilmPrinterModel", "nOp", "[I", true)
  | 17 => ("FilmPrinterModel", "nArg", "[I", true)
  | 18 => ("FilmPrinterModel", "nLeaves", "I", false)
  | 19 => ("FilmPrinterModel", "pile", "[I", true)
  | 20 => ("FilmPrinterModel", "pileAt", "[I", true)
  | 21 => ("FilmPrinterModel", "piled", "I", false)
  | 22 => ("FilmPrinterModel", "opened", "I", false)
  | 23 => ("FilmPrinterModel", "set", "[J", true)
  | 24 => ("FilmPrinterModel", "rest", "[J", true)
  | 25 => ("FilmPrinterModel", "broken", "Z", false)
  | 26 => ("FilmPrinterModel", "value", "J", false)
  | 27 => ("FilmPrinterModel", "sum", "J", false)
  | 28 => ("FilmPrinterModel", "places", "I", false)
  | 29 => ("FilmPrinterModel", "parts", "I", false)
  | 30 => ("FilmPrinterModel", "partOf", "[I", true)
  | 31 => ("FilmPrinterModel", "frameOf", "[I", true)
  | 32 => ("FilmPrinterModel", "shotOf", "[I", true)
  | 33 => ("FilmPrinterModel", "lights", "[I", true)
  | 34 => ("FilmPrinterModel", "begins", "[I", true)
  | 35 => ("FilmPrinterModel", "aparts", "[I", true)
  | 36 => ("FilmPrinterModel", "costs", "[I", true)
  | 37 => ("FilmPrinterModel", "fails", "[I", true)
  | 38 => ("FilmPrinterModel", "hows", "[I", true)
  | 39 => ("FilmPrinterModel", "isFound", "[Z", true)
  | 40 => ("FilmPrinterModel", "follow", "[I", true)
  | 41 => ("FilmPrinterModel", "matches", "[I", true)
  | 42 => ("FilmPrinterModel", "copied", "[I", true)
  | 43 => ("FilmPrinterModel", "greys", "[I", true)
  | 44 => ("FilmPrinterModel", "ahead", "[I", true)
  | _ => ("FilmPrinterModel", "taken", "[I", true)
def t_Mod : Nat → FieldType := fun k => match k with
  | 0 => .int
  | 1 => .int
  | 2 => .array .int
  | 3 => .array .int
  | 4 => .array .boolean
  | 5 => .array .int
  | 6 => .int
  | 7 => .int
  | 8 => .int
  | 9 => .int
  | 10 => .long
  | 11 => .int
  | 12 => .boolean
  | 13 => .int
  | 14 => .array .int
  | 15 => .int
  | 16 => .array .int
  | 17 => .array .int
  | 18 => .int
  | 19 => .array .int
  | 20 => .array .int
  | 21 => .int
  | 22 => .int
  | 23 => .array .long
  | 24 => .array .long
  | 25 => .boolean
  | 26 => .long
  | 27 => .long
  | 28 => .int
  | 29 => .int
  | 30 => .array .int
  | 31 => .array .int
  | 32 => .array .int
  | 33 => .array .int
  | 34 => .array .int
  | 35 => .array .int
  | 36 => .array .int
  | 37 => .array .int
  | 38 => .array .int
  | 39 => .array .boolean
  | 40 => .array .int
  | 41 => .array .int
  | 42 => .array .int
  | 43 => .array .int
  | 44 => .array .int
  | _ => .array .int
theorem n_Mod : ∀ a, a < 46 → ∀ b, b < 46 → a ≠ b → (F_Mod a).2.1 ≠ (F_Mod b).2.1 := by decide +kernel
theorem t_Mod_ok : ∀ k, k < 46 → parseFieldDescriptor (F_Mod k).2.2.1 = some (t_Mod k) := by decide +kernel
theorem i_Mod : ∀ w ∈ u_ws R_Mod F_Mod 46, w ∈ lw_tbl := by decide +kernel
theorem g_Mod : ∀ w ∈ u_ws R_Mod F_Mod 46, goodWord w = true := by decide +kernel
abbrev x_cls : List vw_C := [(R_Asker, F_Asker, 6), (R_Edition, F_Edition, 6), (R_Explainer, F_Explainer, 6), (R_Law, F_Law, 6), (R_Maker, F_Maker, 8), (R_Matcher, F_Matcher, 6), (R_Projector, F_Projector, 5), (R_Reader, F_Reader, 7), (R_State, F_State, 15), (R_Tape, F_Tape, 2), (R_Fp, F_Fp, 12), (R_Mod, F_Mod, 46)]
/-- what a class number stands for -/
theorem x_cls_ok : ∀ (ci : Nat) (q : vw_C), x_cls[ci]? = some q → (∀ w ∈ u_ws q.1 q.2.1 q.2.2, w ∈ x_tbl) ∧ (∃ ty : Nat → FieldType, ∀ k, k < q.2.2 → parseFieldDescriptor (q.2.1 k).2.2.1 = some (ty k)) ∧ ∀ a, a < q.2.2 → ∀ b, b < q.2.2 → a ≠ b → (q.2.1 a).2.1 ≠ (q.2.1 b).2.1 := by
  intro ci q hq
  match ci, hq with
  | 0, hq => cases hq; exact ⟨fun w h => List.mem_filter.mpr ⟨i_Asker w h, g_Asker w h⟩, ⟨t_Asker, t_Asker_ok⟩, n_Asker⟩
  | 1, hq => cases hq; exact ⟨fun w h => List.mem_filter.mpr ⟨i_Edition w h, g_Edition w h⟩, ⟨t_Edition, t_Edition_ok⟩, n_Edition⟩
  | 2, hq => cases hq; exact ⟨fun w h => List.mem_filter.mpr ⟨i_Explainer w h, g_Explainer w h⟩, ⟨t_Explainer, t_Explainer_ok⟩, n_Explainer⟩
  | 3, hq => cases hq; exact ⟨fun w h => List.mem_filter.mpr ⟨i_Law w h, g_Law w h⟩, ⟨t_Law, t_Law_ok⟩, n_Law⟩
  | 4, hq => cases hq; exact ⟨fun w h => List.mem_filter.mpr ⟨i_Maker w h, g_Maker w h⟩, ⟨t_Maker, t_Maker_ok⟩, n_Maker⟩
  | 5, hq => cases hq; exact ⟨fun w h => List.mem_filter.mpr ⟨i_Matcher w h, g_Matcher w h⟩, ⟨t_Matcher, t_Matcher_ok⟩, n_Matcher⟩
  | 6, hq => cases hq; exact ⟨fun w h => List.mem_filter.mpr ⟨i_Projector w h, g_Projector w h⟩, ⟨t_Projector, t_Projector_ok⟩, n_Projector⟩
  | 7, hq => cases hq; exact ⟨fun w h => List.mem_filter.mpr ⟨i_Reader w h, g_Reader w h⟩, ⟨t_Reader, t_Reader_ok⟩, n_Reader⟩
  | 8, hq => cases hq; exact ⟨fun w h => List.mem_filter.mpr ⟨i_State w h, g_State w h⟩, ⟨t_State, t_State_ok⟩, n_State⟩
  | 9, hq => cases hq; exact ⟨fun w h => List.mem_filter.mpr ⟨i_Tape w h, g_Tape w h⟩, ⟨t_Tape, t_Tape_ok⟩, n_Tape⟩
  | 10, hq => cases hq; exact ⟨fun w h => List.mem_filter.mpr ⟨i_Fp w h, g_Fp w h⟩, ⟨t_Fp, t_Fp_ok⟩, n_Fp⟩
  | 11, hq => cases hq; exact ⟨fun w h => List.mem_filter.mpr ⟨i_Mod w h, g_Mod w h⟩, ⟨t_Mod, t_Mod_ok⟩, n_Mod⟩
  | k + 12, hq => simp [x_cls] at hq
end
section
-- the methods, numbered: name, bytes, locals, answer
def x_nm : Nat → MethodName := fun k => (bif Nat.blt k 108 then (bif Nat.blt k 54 then (bif Nat.blt k 27 then (bif Nat.blt k 13 then (bif Nat.blt k 6 then (bif Nat.blt k 3 then (bif Nat.blt k 1 then ⟨"jdk/internal/util/Preconditions", "checkIndex", "(IILjava/util/function/BiFunction;)I"⟩ else (bif Nat.blt k 2 then ⟨"java/util/Arrays", "fill", "([II)V"⟩ else ⟨"java/lang/String", "length", "()I"⟩)) else (bif Nat.blt k 4 then ⟨"java/lang/String", "coder", "()B"⟩ else (bif Nat.blt k 5 then ⟨"java/lang/String", "charAt", "(I)C"⟩ else ⟨"java/lang/String", "isLatin1", "()Z"⟩))) else (bif Nat.blt k 9 then (bif Nat.blt k 7 then ⟨"java/lang/String", "checkIndex", "(II)V"⟩ else (bif Nat.blt k 8 then ⟨"java/lang/StringLatin1", "charAt", "([BI)C"⟩ else ⟨"FilmPrinter$Asker", "<init>", "()V"⟩)) else (bif Nat.blt k 11 then (bif Nat.blt k 10 then ⟨"FilmPrinter$Asker", "ask", "(LFilmPrinter$State;II)V"⟩ else ⟨"FilmPrinter$Asker", "holds", "(LFilmPrinter$Law;II)Z"⟩) else (bif Nat.blt k 12 then ⟨"FilmPrinter$Asker", "run", "(II)Z"⟩ else ⟨"FilmPrinter$Asker", "push", "(I)Z"⟩)))) else (bif Nat.blt k 20 then (bif Nat.blt k 16 then (bif Nat.blt k 14 then ⟨"FilmPrinter$Asker", "reckon", "(IJJ)Z"⟩ else (bif Nat.blt k 15 then ⟨"FilmPrinter$Edition", "<init>", "()V"⟩ else ⟨"FilmPrinter$Edition", "build", "(LFilmPrinter$State;LFilmPrinter$Asker;I)V"⟩)) else (bif Nat.blt k 18 then (bif Nat.blt k 17 then ⟨"FilmPrinter$Edition", "addPlace", "(II)V"⟩ else ⟨"FilmPrinter$Edition", "turnInUse", "(LFilmPrinter$State;I)I"⟩) else (bif Nat.blt k 19 then ⟨"FilmPrinter$Edition", "greyBy", "(LFilmPrinter$State;II)I"⟩ else ⟨"FilmPrinter$Edition", "startsLaterPart", "(I)Z"⟩))) else (bif Nat.blt k 23 then (bif Nat.blt k 21 then ⟨"FilmPrinter$Explainer", "<init>", "()V"⟩ else (bif Nat.blt k 22 then ⟨"FilmPrinter$Explainer", "work", "(LFilmPrinter$State;LFilmPrinter$Edition;)V"⟩ else ⟨"FilmPrinter$Explainer", "countApart", "(LFilmPrinter$State;LFilmPrinter$Edition;)V"⟩)) else (bif Nat.blt k 25 then (bif Nat.blt k 24 then ⟨"FilmPrinter$Explainer", "bestFail", "(LFilmPrinter$Edition;III)I"⟩ else ⟨"FilmPrinter$Explainer", "leastBy", "(LFilmPrinter$Edition;IIII)I"⟩) else (bif Nat.blt k 26 then ⟨"FilmPrinter$Explainer", "follow", "(LFilmPrinter$Edition;I)V"⟩ else ⟨"FilmPrinter$Law", "<init>", "()V"⟩))))) else (bif Nat.blt k 40 then (bif Nat.blt k 33 then (bif Nat.blt k 30 then (bif Nat.blt k 28 then ⟨"FilmPrinter$Law", "empty", "()V"⟩ else (bif Nat.blt k 29 then ⟨"FilmPrinter$Law", "emit", "(II)V"⟩ else ⟨"FilmPrinter$Law", "passToHere", "(I)V"⟩)) else (bif Nat.blt k 31 then ⟨"FilmPrinter$Law", "closeClause", "(I)V"⟩ else (bif Nat.blt k 32 then ⟨"FilmPrinter$Law", "take", "(LFilmPrinter$Law;)V"⟩ else ⟨"FilmPrinter$Maker", "<init>", "()V"⟩))) else (bif Nat.blt k 36 then (bif Nat.blt k 34 then ⟨"FilmPrinter$Maker", "make", "(LFilmPrinter$State;LFilmPrinter$Matcher;)V"⟩ else (bif Nat.blt k 35 then ⟨"FilmPrinter$Maker", "costFrom", "(LFilmPrinter$Matcher;II[I)I"⟩ else ⟨"FilmPrinter$Maker", "lesser", "(II)I"⟩)) else (bif Nat.blt k 38 then (bif Nat.blt k 37 then ⟨"FilmPrinter$Maker", "follow", "(LFilmPrinter$State;LFilmPrinter$Matcher;I)V"⟩ else ⟨"FilmPrinter$Maker", "better", "(LFilmPrinter$Matcher;III)I"⟩) else (bif Nat.blt k 39 then ⟨"FilmPrinter$Maker", "countMissing", "(LFilmPrinter$State;)V"⟩ else ⟨"FilmPrinter$Maker", "countOlder", "(LFilmPrinter$State;LFilmPrinter$Matcher;)V"⟩)))) else (bif Nat.blt k 47 then (bif Nat.blt k 43 then (bif Nat.blt k 41 then ⟨"FilmPrinter$Matcher", "<init>", "()V"⟩ else (bif Nat.blt k 42 then ⟨"FilmPrinter$Matcher", "forget", "()V"⟩ else ⟨"FilmPrinter$Matcher", "refresh", "(LFilmPrinter$State;I)V"⟩)) else (bif Nat.blt k 45 then (bif Nat.blt k 44 then ⟨"FilmPrinter$Matcher", "weigh", "(LFilmPrinter$State;III)V"⟩ else ⟨"FilmPrinter$Matcher", "choose", "(LFilmPrinter$State;II)V"⟩) else (bif Nat.blt k 46 then ⟨"FilmPrinter$Projector", "<init>", "()V"⟩ else ⟨"FilmPrinter$Projector", "runShrunk", "(LFilmPrinter$State;LFilmPrinter$Edition;)V"⟩))) else (bif Nat.blt k 50 then (bif Nat.blt k 48 then ⟨"FilmPrinter$Projector", "shotHeard", "(LFilmPrinter$State;LFilmPrinter$Edition;I)I"⟩ else (bif Nat.blt k 49 then ⟨"FilmPrinter$Projector", "listen", "(LFilmPrinter$State;LFilmPrinter$Edition;)V"⟩ else ⟨"FilmPrinter$Projector", "soundOf", "(LFilmPrinter$State;I)I"⟩)) else (bif Nat.blt k 52 then (bif Nat.blt k 51 then ⟨"FilmPrinter$Reader", "<init>", "()V"⟩ else ⟨"FilmPrinter$Reader", "read", "(LFilmPrinter$Tape;)I"⟩) else (bif Nat.blt k 53 then ⟨"FilmPrinter$Reader", "split", "(LFilmPrinter$Tape;)V"⟩ else ⟨"FilmPrinter$Reader", "isLetter", "(I)Z"⟩)))))) else (bif Nat.blt k 81 then (bif Nat.blt k 67 then (bif Nat.blt k 60 then (bif Nat.blt k 57 then (bif Nat.blt k 55 then ⟨"FilmPrinter$Reader", "addWord", "(LFilmPrinter$Tape;II)V"⟩ else (bif Nat.blt k 56 then ⟨"FilmPrinter$Reader", "traitNamed", "(LFilmPrinter$Tape;II)I"⟩ else ⟨"FilmPrinter$Reader", "says", "(LFilmPrinter$Tape;IILjava/lang/String;)Z"⟩)) else (bif Nat.blt k 58 then ⟨"FilmPrinter$Reader", "addToken", "(III)V"⟩ else (bif Nat.blt k 59 then ⟨"FilmPrinter$Reader", "wordNamed", "(LFilmPrinter$Tape;II)I"⟩ else ⟨"FilmPrinter$Reader", "isDigit", "(I)Z"⟩))) else (bif Nat.blt k 63 then (bif Nat.blt k 61 then ⟨"FilmPrinter$Reader", "numberIn", "(LFilmPrinter$Tape;II)I"⟩ else (bif Nat.blt k 62 then ⟨"FilmPrinter$Reader", "readClause", "()Z"⟩ else ⟨"FilmPrinter$Reader", "pass", "()V"⟩)) else (bif Nat.blt k 65 then (bif Nat.blt k 64 then ⟨"FilmPrinter$Reader", "readSum", "(I)Z"⟩ else ⟨"FilmPrinter$Reader", "readTerm", "(I)Z"⟩) else (bif Nat.blt k 66 then ⟨"FilmPrinter$Reader", "readPart", "(I)Z"⟩ else ⟨"FilmPrinter$Reader", "readTest", "(I)Z"⟩)))) else (bif Nat.blt k 74 then (bif Nat.blt k 70 then (bif Nat.blt k 68 then ⟨"FilmPrinter$Reader", "readBoth", "(I)Z"⟩ else (bif Nat.blt k 69 then ⟨"FilmPrinter$Reader", "readPlain", "(I)Z"⟩ else ⟨"FilmPrinter$Reader", "readComparison", "(I)Z"⟩)) else (bif Nat.blt k 72 then (bif Nat.blt k 71 then ⟨"FilmPrinter$State", "<init>", "()V"⟩ else ⟨"FilmPrinter$State", "joinLatestShot", "()V"⟩) else (bif Nat.blt k 73 then ⟨"FilmPrinter$State", "trait", "(II)I"⟩ else ⟨"FilmPrinter$State", "refill", "([I[I)V"⟩))) else (bif Nat.blt k 77 then (bif Nat.blt k 75 then ⟨"FilmPrinter$State", "broughtBack", "(II)I"⟩ else (bif Nat.blt k 76 then ⟨"FilmPrinter$State", "take", "(LFilmPrinter$State;)V"⟩ else ⟨"FilmPrinter$Tape", "<init>", "()V"⟩)) else (bif Nat.blt k 79 then (bif Nat.blt k 78 then ⟨"FilmPrinter$Tape", "append", "(I)V"⟩ else ⟨"FilmPrinter$Tape", "empty", "()I"⟩) else (bif Nat.blt k 80 then ⟨"FilmPrinter", "<init>", "()V"⟩ else ⟨"FilmPrinter", "shot", "(IIIIII)I"⟩))))) else (bif Nat.blt k 94 then (bif Nat.blt k 87 then (bif Nat.blt k 84 then (bif Nat.blt k 82 then ⟨"FilmPrinter", "between", "(III)Z"⟩ else (bif Nat.blt k 83 then ⟨"FilmPrinter", "refuse", "(I)I"⟩ else ⟨"FilmPrinter", "nearest", "(III)I"⟩)) else (bif Nat.blt k 85 then ⟨"FilmPrinter", "accept", "(I)I"⟩ else (bif Nat.blt k 86 then ⟨"FilmPrinter", "of", "(II)I"⟩ else ⟨"FilmPrinter", "hasShot", "(I)Z"⟩))) else (bif Nat.blt k 90 then (bif Nat.blt k 88 then ⟨"FilmPrinter", "terms", "(II)I"⟩ else (bif Nat.blt k 89 then ⟨"FilmPrinter", "feed", "(IIIII)I"⟩ else ⟨"FilmPrinter", "end", "(I)I"⟩)) else (bif Nat.blt k 92 then (bif Nat.blt k 91 then ⟨"FilmPrinter", "law", "()I"⟩ else ⟨"FilmPrinter", "fault", "()I"⟩) else (bif Nat.blt k 93 then ⟨"FilmPrinter", "asks", "(III)I"⟩ else ⟨"FilmPrinter", "isLand", "(I)Z"⟩)))) else (bif Nat.blt k 101 then (bif Nat.blt k 97 then (bif Nat.blt k 95 then ⟨"FilmPrinter", "edition", "(II)I"⟩ else (bif Nat.blt k 96 then ⟨"FilmPrinter", "place", "(III)I"⟩ else ⟨"FilmPrinter", "hasPlace", "(II)Z"⟩)) else (bif Nat.blt k 99 then (bif Nat.blt k 98 then ⟨"FilmPrinter", "fail", "(II)I"⟩ else ⟨"FilmPrinter", "printed", "(II)I"⟩) else (bif Nat.blt k 100 then ⟨"FilmPrinter", "turnAfter", "(III)I"⟩ else ⟨"FilmPrinter", "see", "()I"⟩))) else (bif Nat.blt k 104 then (bif Nat.blt k 102 then ⟨"FilmPrinter", "seen", "(I)I"⟩ else (bif Nat.blt k 103 then ⟨"FilmPrinter", "explain", "(II)I"⟩ else ⟨"FilmPrinter", "isExplained", "(I)Z"⟩)) else (bif Nat.blt k 106 then (bif Nat.blt k 105 then ⟨"FilmPrinter", "failed", "(II)I"⟩ else ⟨"FilmPrinter", "jump", "(II)I"⟩) else (bif Nat.blt k 107 then ⟨"FilmPrinter", "heard", "(II)I"⟩ else ⟨"FilmPrinter", "sound", "(II)I"⟩))))))) else (bif Nat.blt k 162 then (bif Nat.blt k 135 then (bif Nat.blt k 121 then (bif Nat.blt k 114 then (bif Nat.blt k 111 then (bif Nat.blt k 109 then ⟨"FilmPrinter", "copy", "(I)I"⟩ else (bif Nat.blt k 110 then ⟨"FilmPrinter", "isCopy", "(I)Z"⟩ else ⟨"FilmPrinter", "match", "(II)I"⟩)) else (bif Nat.blt k 112 then ⟨"FilmPrinter", "matched", "(II)I"⟩ else (bif Nat.blt k 113 then ⟨"FilmPrinter", "one", "(I)I"⟩ else ⟨"FilmPrinter", "makeOne", "()V"⟩))) else (bif Nat.blt k 117 then (bif Nat.blt k 115 then ⟨"FilmPrinter", "from", "(I)I"⟩ else (bif Nat.blt k 116 then ⟨"FilmPrinter", "pair", "(III)I"⟩ else ⟨"FilmPrinter", "isGrey", "(I)Z"⟩)) else (bif Nat.blt k 119 then (bif Nat.blt k 118 then ⟨"FilmPrinter", "brought", "(II)I"⟩ else ⟨"FilmPrinter", "clear", "()I"⟩) else (bif Nat.blt k 120 then ⟨"FilmPrinter", "image", "(I)I"⟩ else ⟨"FilmPrinter", "back", "(I)I"⟩)))) else (bif Nat.blt k 128 then (bif Nat.blt k 124 then (bif Nat.blt k 122 then ⟨"FilmPrinter", "count", "(I)I"⟩ else (bif Nat.blt k 123 then ⟨"FilmPrinter", "status", "()I"⟩ else ⟨"FilmPrinterModel", "<init>", "()V"⟩)) else (bif Nat.blt k 126 then (bif Nat.blt k 125 then ⟨"FilmPrinterModel", "image", "(I)I"⟩ else ⟨"FilmPrinterModel", "in", "(JJJ)Z"⟩) else (bif Nat.blt k 127 then ⟨"FilmPrinterModel", "tell", "(I)I"⟩ else ⟨"FilmPrinterModel", "back", "(I)I"⟩))) else (bif Nat.blt k 131 then (bif Nat.blt k 129 then ⟨"FilmPrinterModel", "forget", "()V"⟩ else (bif Nat.blt k 130 then ⟨"FilmPrinterModel", "shot", "(IIIIII)I"⟩ else ⟨"FilmPrinterModel", "shotAt", "(I)I"⟩)) else (bif Nat.blt k 133 then (bif Nat.blt k 132 then ⟨"FilmPrinterModel", "of", "(II)I"⟩ else ⟨"FilmPrinterModel", "isShot", "(I)Z"⟩) else (bif Nat.blt k 134 then ⟨"FilmPrinterModel", "firstOf", "(I)I"⟩ else ⟨"FilmPrinterModel", "terms", "(II)I"⟩))))) else (bif Nat.blt k 148 then (bif Nat.blt k 141 then (bif Nat.blt k 138 then (bif Nat.blt k 136 then ⟨"FilmPrinterModel", "leastOf", "(I)I"⟩ else (bif Nat.blt k 137 then ⟨"FilmPrinterModel", "mostOf", "(I)I"⟩ else ⟨"FilmPrinterModel", "feed", "(IIIII)I"⟩)) else (bif Nat.blt k 139 then ⟨"FilmPrinterModel", "four", "(I)V"⟩ else (bif Nat.blt k 140 then ⟨"FilmPrinterModel", "end", "(I)I"⟩ else ⟨"FilmPrinterModel", "fault", "()I"⟩))) else (bif Nat.blt k 144 then (bif Nat.blt k 142 then ⟨"FilmPrinterModel", "law", "()I"⟩ else (bif Nat.blt k 143 then ⟨"FilmPrinterModel", "begin", "()V"⟩ else ⟨"FilmPrinterModel", "next", "()V"⟩)) else (bif Nat.blt k 146 then (bif Nat.blt k 145 then ⟨"FilmPrinterModel", "isSmall", "(I)Z"⟩ else ⟨"FilmPrinterModel", "isDigit", "(I)Z"⟩) else (bif Nat.blt k 147 then ⟨"FilmPrinterModel", "readClause", "()V"⟩ else ⟨"FilmPrinterModel", "headAt", "()I"⟩)))) else (bif Nat.blt k 155 then (bif Nat.blt k 151 then (bif Nat.blt k 149 then ⟨"FilmPrinterModel", "isWord", "(J)Z"⟩ else (bif Nat.blt k 150 then ⟨"FilmPrinterModel", "must", "(Z)V"⟩ else ⟨"FilmPrinterModel", "readExpression", "(Z)V"⟩)) else (bif Nat.blt k 153 then (bif Nat.blt k 152 then ⟨"FilmPrinterModel", "readPlain", "()I"⟩ else ⟨"FilmPrinterModel", "push", "(II)V"⟩) else (bif Nat.blt k 154 then ⟨"FilmPrinterModel", "isSign", "(I)Z"⟩ else ⟨"FilmPrinterModel", "openBracket", "(I)V"⟩))) else (bif Nat.blt k 158 then (bif Nat.blt k 156 then ⟨"FilmPrinterModel", "readPart", "()I"⟩ else (bif Nat.blt k 157 then ⟨"FilmPrinterModel", "partAt", "()I"⟩ else ⟨"FilmPrinterModel", "leaf", "(ZII)V"⟩)) else (bif Nat.blt k 160 then (bif Nat.blt k 159 then ⟨"FilmPrinterModel", "emit", "(II)V"⟩ else ⟨"FilmPrinterModel", "behindSum", "(Z)I"⟩) else (bif Nat.blt k 161 then ⟨"FilmPrinterModel", "binds", "(I)I"⟩ else ⟨"FilmPrinterModel", "settle", "(I)V"⟩)))))) else (bif Nat.blt k 189 then (bif Nat.blt k 175 then (bif Nat.blt k 168 then (bif Nat.blt k 165 then (bif Nat.blt k 163 then ⟨"FilmPrinterModel", "inner", "()I"⟩ else (bif Nat.blt k 164 then ⟨"FilmPrinterModel", "isCompared", "()Z"⟩ else ⟨"FilmPrinterModel", "behindTest", "()I"⟩)) else (bif Nat.blt k 166 then ⟨"FilmPrinterModel", "asks", "(III)I"⟩ else (bif Nat.blt k 167 then ⟨"FilmPrinterModel", "isLand", "(I)Z"⟩ else ⟨"FilmPrinterModel", "lightOf", "(II)I"⟩))) else (bif Nat.blt k 171 then (bif Nat.blt k 169 then ⟨"FilmPrinterModel", "ask", "(II)V"⟩ else (bif Nat.blt k 170 then ⟨"FilmPrinterModel", "find", "(IIII)I"⟩ else ⟨"FilmPrinterModel", "isSo", "(I)Z"⟩)) else (bif Nat.blt k 173 then (bif Nat.blt k 172 then ⟨"FilmPrinterModel", "reckonAll", "(II)V"⟩ else ⟨"FilmPrinterModel", "reckon", "(IJJ)J"⟩) else (bif Nat.blt k 174 then ⟨"FilmPrinterModel", "titleOf", "(II)I"⟩ else ⟨"FilmPrinterModel", "cutOf", "(II)I"⟩)))) else (bif Nat.blt k 182 then (bif Nat.blt k 178 then (bif Nat.blt k 176 then ⟨"FilmPrinterModel", "edition", "(II)I"⟩ else (bif Nat.blt k 177 then ⟨"FilmPrinterModel", "findEdition", "(I)V"⟩ else ⟨"FilmPrinterModel", "place", "(III)I"⟩)) else (bif Nat.blt k 180 then (bif Nat.blt k 179 then ⟨"FilmPrinterModel", "fail", "(II)I"⟩ else ⟨"FilmPrinterModel", "printed", "(II)I"⟩) else (bif Nat.blt k 181 then ⟨"FilmPrinterModel", "moved", "(II)I"⟩ else ⟨"FilmPrinterModel", "printOf", "(II)I"⟩))) else (bif Nat.blt k 185 then (bif Nat.blt k 183 then ⟨"FilmPrinterModel", "greyOf", "(I)I"⟩ else (bif Nat.blt k 184 then ⟨"FilmPrinterModel", "nearest", "(J)I"⟩ else ⟨"FilmPrinterModel", "see", "()I"⟩)) else (bif Nat.blt k 187 then (bif Nat.blt k 186 then ⟨"FilmPrinterModel", "seen", "(I)I"⟩ else ⟨"FilmPrinterModel", "explain", "(II)I"⟩) else (bif Nat.blt k 188 then ⟨"FilmPrinterModel", "explains", "(I)Z"⟩ else ⟨"FilmPrinterModel", "goOn", "(II)V"⟩))))) else (bif Nat.blt k 202 then (bif Nat.blt k 195 then (bif Nat.blt k 192 then (bif Nat.blt k 190 then ⟨"FilmPrinterModel", "apart", "(II)I"⟩ else (bif Nat.blt k 191 then ⟨"FilmPrinterModel", "failed", "(II)I"⟩ else ⟨"FilmPrinterModel", "jump", "(II)I"⟩)) else (bif Nat.blt k 193 then ⟨"FilmPrinterModel", "heard", "(II)I"⟩ else (bif Nat.blt k 194 then ⟨"FilmPrinterModel", "hear", "(I)I"⟩ else ⟨"FilmPrinterModel", "frames", "()I"⟩))) else (bif Nat.blt k 198 then (bif Nat.blt k 196 then ⟨"FilmPrinterModel", "shotWith", "(I)I"⟩ else (bif Nat.blt k 197 then ⟨"FilmPrinterModel", "sound", "(II)I"⟩ else ⟨"FilmPrinterModel", "soundOf", "(I)I"⟩)) else (bif Nat.blt k 200 then (bif Nat.blt k 199 then ⟨"FilmPrinterModel", "copy", "(I)I"⟩ else ⟨"FilmPrinterModel", "isCopy", "(I)Z"⟩) else (bif Nat.blt k 201 then ⟨"FilmPrinterModel", "match", "(II)I"⟩ else ⟨"FilmPrinterModel", "findMatches", "(I)V"⟩)))) else (bif Nat.blt k 209 then (bif Nat.blt k 205 then (bif Nat.blt k 203 then ⟨"FilmPrinterModel", "findGreys", "()V"⟩ else (bif Nat.blt k 204 then ⟨"FilmPrinterModel", "isAlike", "(III)Z"⟩ else ⟨"FilmPrinterModel", "matched", "(II)I"⟩)) else (bif Nat.blt k 207 then (bif Nat.blt k 206 then ⟨"FilmPrinterModel", "one", "(I)I"⟩ else ⟨"FilmPrinterModel", "findOne", "()V"⟩) else (bif Nat.blt k 208 then ⟨"FilmPrinterModel", "goFrom", "(II)V"⟩ else ⟨"FilmPrinterModel", "scratch", "(II)I"⟩))) else (bif Nat.blt k 212 then (bif Nat.blt k 210 then ⟨"FilmPrinterModel", "from", "(I)I"⟩ else (bif Nat.blt k 211 then ⟨"FilmPrinterModel", "pair", "(III)I"⟩ else ⟨"FilmPrinterModel", "brought", "(II)I"⟩)) else (bif Nat.blt k 214 then (bif Nat.blt k 213 then ⟨"FilmPrinterModel", "clear", "()I"⟩ else ⟨"FilmPrinterModel", "count", "(I)I"⟩) else (bif Nat.blt k 215 then ⟨"FilmPrinterModel", "status", "()I"⟩ else ⟨"FilmPrinterLaw", "law", "([I)Z"⟩))))))))
def x_cc : Nat → ByteArray := fun k => (bif Nat.blt k 108 then (bif Nat.blt k 54 then (bif Nat.blt k 27 then (bif Nat.blt k 13 then (bif Nat.blt k 6 then (bif Nat.blt k 3 then (bif Nat.blt k 1 then prog_21_method_11_code else (bif Nat.blt k 2 then prog_20_method_103_code else prog_16_method_54_code)) else (bif Nat.blt k 4 then prog_16_method_152_code else (bif Nat.blt k 5 then prog_16_method_56_code else prog_16_method_154_code))) else (bif Nat.blt k 9 then (bif Nat.blt k 7 then prog_16_method_155_code else (bif Nat.blt k 8 then prog_17_method_2_code else prog_2_method_1_code)) else (bif Nat.blt k 11 then (bif Nat.blt k 10 then prog_2_method_2_code else prog_2_method_3_code) else (bif Nat.blt k 12 then prog_2_method_4_code else prog_2_method_5_code)))) else (bif Nat.blt k 20 then (bif Nat.blt k 16 then (bif Nat.blt k 14 then prog_2_method_6_code else (bif Nat.blt k 15 then prog_3_method_1_code else prog_3_method_2_code)) else (bif Nat.blt k 18 then (bif Nat.blt k 17 then prog_3_method_3_code else prog_3_method_5_code) else (bif Nat.blt k 19 then prog_3_method_6_code else prog_3_method_4_code))) else (bif Nat.blt k 23 then (bif Nat.blt k 21 then prog_4_method_1_code else (bif Nat.blt k 22 then prog_4_method_2_code else prog_4_method_3_code)) else (bif Nat.blt k 25 then (bif Nat.blt k 24 then prog_4_method_5_code else prog_4_method_4_code) else (bif Nat.blt k 26 then prog_4_method_6_code else prog_5_method_1_code))))) else (bif Nat.blt k 40 then (bif Nat.blt k 33 then (bif Nat.blt k 30 then (bif Nat.blt k 28 then prog_5_method_3_code else (bif Nat.blt k 29 then prog_5_method_4_code else prog_5_method_5_code)) else (bif Nat.blt k 31 then prog_5_method_6_code else (bif Nat.blt k 32 then prog_5_method_2_code else prog_6_method_1_code))) else (bif Nat.blt k 36 then (bif Nat.blt k 34 then prog_6_method_2_code else (bif Nat.blt k 35 then prog_6_method_3_code else prog_6_method_4_code)) else (bif Nat.blt k 38 then (bif Nat.blt k 37 then prog_6_method_5_code else prog_6_method_6_code) else (bif Nat.blt k 39 then prog_6_method_7_code else prog_6_method_8_code)))) else (bif Nat.blt k 47 then (bif Nat.blt k 43 then (bif Nat.blt k 41 then prog_7_method_1_code else (bif Nat.blt k 42 then prog_7_method_2_code else prog_7_method_3_code)) else (bif Nat.blt k 45 then (bif Nat.blt k 44 then prog_7_method_4_code else prog_7_method_5_code) else (bif Nat.blt k 46 then prog_8_method_1_code else prog_8_method_2_code))) else (bif Nat.blt k 50 then (bif Nat.blt k 48 then prog_8_method_3_code else (bif Nat.blt k 49 then prog_8_method_4_code else prog_8_method_5_code)) else (bif Nat.blt k 52 then (bif Nat.blt k 51 then prog_9_method_1_code else prog_9_method_2_code) else (bif Nat.blt k 53 then prog_9_method_3_code else prog_9_method_5_code)))))) else (bif Nat.blt k 81 then (bif Nat.blt k 67 then (bif Nat.blt k 60 then (bif Nat.blt k 57 then (bif Nat.blt k 55 then prog_9_method_8_code else (bif Nat.blt k 56 then prog_9_method_9_code else prog_9_method_11_code)) else (bif Nat.blt k 58 then prog_9_method_4_code else (bif Nat.blt k 59 then prog_9_method_10_code else prog_9_method_6_code))) else (bif Nat.blt k 63 then (bif Nat.blt k 61 then prog_9_method_7_code else (bif Nat.blt k 62 then prog_9_method_13_code else prog_9_method_12_code)) else (bif Nat.blt k 65 then (bif Nat.blt k 64 then prog_9_method_18_code else prog_9_method_19_code) else (bif Nat.blt k 66 then prog_9_method_20_code else prog_9_method_14_code)))) else (bif Nat.blt k 74 then (bif Nat.blt k 70 then (bif Nat.blt k 68 then prog_9_method_15_code else (bif Nat.blt k 69 then prog_9_method_16_code else prog_9_method_17_code)) else (bif Nat.blt k 72 then (bif Nat.blt k 71 then prog_10_method_1_code else prog_10_method_5_code) else (bif Nat.blt k 73 then prog_10_method_4_code else prog_10_method_3_code))) else (bif Nat.blt k 77 then (bif Nat.blt k 75 then prog_10_method_6_code else (bif Nat.blt k 76 then prog_10_method_2_code else prog_11_method_1_code)) else (bif Nat.blt k 79 then (bif Nat.blt k 78 then prog_11_method_2_code else prog_11_method_3_code) else (bif Nat.blt k 80 then prog_1_method_1_code else prog_1_method_2_code))))) else (bif Nat.blt k 94 then (bif Nat.blt k 87 then (bif Nat.blt k 84 then (bif Nat.blt k 82 then prog_1_method_42_code else (bif Nat.blt k 83 then prog_1_method_33_code else prog_1_method_43_code)) else (bif Nat.blt k 85 then prog_1_method_34_code else (bif Nat.blt k 86 then prog_1_method_3_code else prog_1_method_35_code))) else (bif Nat.blt k 90 then (bif Nat.blt k 88 then prog_1_method_4_code else (bif Nat.blt k 89 then prog_1_method_5_code else prog_1_method_6_code)) else (bif Nat.blt k 92 then (bif Nat.blt k 91 then prog_1_method_7_code else prog_1_method_8_code) else (bif Nat.blt k 93 then prog_1_method_9_code else prog_1_method_39_code)))) else (bif Nat.blt k 101 then (bif Nat.blt k 97 then (bif Nat.blt k 95 then prog_1_method_10_code else (bif Nat.blt k 96 then prog_1_method_11_code else prog_1_method_36_code)) else (bif Nat.blt k 99 then (bif Nat.blt k 98 then prog_1_method_12_code else prog_1_method_13_code) else (bif Nat.blt k 100 then prog_1_method_44_code else prog_1_method_14_code))) else (bif Nat.blt k 104 then (bif Nat.blt k 102 then prog_1_method_15_code else (bif Nat.blt k 103 then prog_1_method_16_code else prog_1_method_37_code)) else (bif Nat.blt k 106 then (bif Nat.blt k 105 then prog_1_method_17_code else prog_1_method_18_code) else (bif Nat.blt k 107 then prog_1_method_19_code else prog_1_method_20_code))))))) else (bif Nat.blt k 162 then (bif Nat.blt k 135 then (bif Nat.blt k 121 then (bif Nat.blt k 114 then (bif Nat.blt k 111 then (bif Nat.blt k 109 then prog_1_method_21_code else (bif Nat.blt k 110 then prog_1_method_40_code else prog_1_method_22_code)) else (bif Nat.blt k 112 then prog_1_method_23_code else (bif Nat.blt k 113 then prog_1_method_24_code else prog_1_method_38_code))) else (bif Nat.blt k 117 then (bif Nat.blt k 115 then prog_1_method_25_code else (bif Nat.blt k 116 then prog_1_method_26_code else prog_1_method_41_code)) else (bif Nat.blt k 119 then (bif Nat.blt k 118 then prog_1_method_27_code else prog_1_method_28_code) else (bif Nat.blt k 120 then prog_1_method_29_code else prog_1_method_30_code)))) else (bif Nat.blt k 128 then (bif Nat.blt k 124 then (bif Nat.blt k 122 then prog_1_method_31_code else (bif Nat.blt k 123 then prog_1_method_32_code else prog_13_method_1_code)) else (bif Nat.blt k 126 then (bif Nat.blt k 125 then prog_13_method_6_code else prog_13_method_3_code) else (bif Nat.blt k 127 then prog_13_method_4_code else prog_13_method_7_code))) else (bif Nat.blt k 131 then (bif Nat.blt k 129 then prog_13_method_79_code else (bif Nat.blt k 130 then prog_13_method_14_code else prog_13_method_10_code)) else (bif Nat.blt k 133 then (bif Nat.blt k 132 then prog_13_method_15_code else prog_13_method_8_code) else (bif Nat.blt k 134 then prog_13_method_12_code else prog_13_method_18_code))))) else (bif Nat.blt k 148 then (bif Nat.blt k 141 then (bif Nat.blt k 138 then (bif Nat.blt k 136 then prog_13_method_16_code else (bif Nat.blt k 137 then prog_13_method_17_code else prog_13_method_20_code)) else (bif Nat.blt k 139 then prog_13_method_19_code else (bif Nat.blt k 140 then prog_13_method_21_code else prog_13_method_30_code))) else (bif Nat.blt k 144 then (bif Nat.blt k 142 then prog_13_method_47_code else (bif Nat.blt k 143 then prog_13_method_24_code else prog_13_method_25_code)) else (bif Nat.blt k 146 then (bif Nat.blt k 145 then prog_13_method_22_code else prog_13_method_23_code) else (bif Nat.blt k 147 then prog_13_method_46_code else prog_13_method_45_code)))) else (bif Nat.blt k 155 then (bif Nat.blt k 151 then (bif Nat.blt k 149 then prog_13_method_26_code else (bif Nat.blt k 150 then prog_13_method_28_code else prog_13_method_44_code)) else (bif Nat.blt k 153 then (bif Nat.blt k 152 then prog_13_method_41_code else prog_13_method_32_code) else (bif Nat.blt k 154 then prog_13_method_27_code else prog_13_method_38_code))) else (bif Nat.blt k 158 then (bif Nat.blt k 156 then prog_13_method_40_code else (bif Nat.blt k 157 then prog_13_method_37_code else prog_13_method_39_code)) else (bif Nat.blt k 160 then (bif Nat.blt k 159 then prog_13_method_31_code else prog_13_method_42_code) else (bif Nat.blt k 161 then prog_13_method_33_code else prog_13_method_34_code)))))) else (bif Nat.blt k 189 then (bif Nat.blt k 175 then (bif Nat.blt k 168 then (bif Nat.blt k 165 then (bif Nat.blt k 163 then prog_13_method_35_code else (bif Nat.blt k 164 then prog_13_method_36_code else prog_13_method_43_code)) else (bif Nat.blt k 166 then prog_13_method_56_code else (bif Nat.blt k 167 then prog_13_method_9_code else prog_13_method_53_code))) else (bif Nat.blt k 171 then (bif Nat.blt k 169 then prog_13_method_52_code else (bif Nat.blt k 170 then prog_13_method_51_code else prog_13_method_50_code)) else (bif Nat.blt k 173 then (bif Nat.blt k 172 then prog_13_method_49_code else prog_13_method_48_code) else (bif Nat.blt k 174 then prog_13_method_54_code else prog_13_method_55_code)))) else (bif Nat.blt k 182 then (bif Nat.blt k 178 then (bif Nat.blt k 176 then prog_13_method_58_code else (bif Nat.blt k 177 then prog_13_method_57_code else prog_13_method_59_code)) else (bif Nat.blt k 180 then (bif Nat.blt k 179 then prog_13_method_62_code else prog_13_method_64_code) else (bif Nat.blt k 181 then prog_13_method_63_code else prog_13_method_61_code))) else (bif Nat.blt k 185 then (bif Nat.blt k 183 then prog_13_method_60_code else (bif Nat.blt k 184 then prog_13_method_5_code else prog_13_method_65_code)) else (bif Nat.blt k 187 then (bif Nat.blt k 186 then prog_13_method_66_code else prog_13_method_70_code) else (bif Nat.blt k 188 then prog_13_method_69_code else prog_13_method_68_code))))) else (bif Nat.blt k 202 then (bif Nat.blt k 195 then (bif Nat.blt k 192 then (bif Nat.blt k 190 then prog_13_method_67_code else (bif Nat.blt k 191 then prog_13_method_71_code else prog_13_method_72_code)) else (bif Nat.blt k 193 then prog_13_method_75_code else (bif Nat.blt k 194 then prog_13_method_74_code else prog_13_method_13_code))) else (bif Nat.blt k 198 then (bif Nat.blt k 196 then prog_13_method_73_code else (bif Nat.blt k 197 then prog_13_method_77_code else prog_13_method_76_code)) else (bif Nat.blt k 200 then (bif Nat.blt k 199 then prog_13_method_78_code else prog_13_method_11_code) else (bif Nat.blt k 201 then prog_13_method_83_code else prog_13_method_82_code)))) else (bif Nat.blt k 209 then (bif Nat.blt k 205 then (bif Nat.blt k 203 then prog_13_method_81_code else (bif Nat.blt k 204 then prog_13_method_80_code else prog_13_method_84_code)) else (bif Nat.blt k 207 then (bif Nat.blt k 206 then prog_13_method_88_code else prog_13_method_87_code) else (bif Nat.blt k 208 then prog_13_method_86_code else prog_13_method_85_code))) else (bif Nat.blt k 212 then (bif Nat.blt k 210 then prog_13_method_89_code else (bif Nat.blt k 211 then prog_13_method_90_code else prog_13_method_91_code)) else (bif Nat.blt k 214 then (bif Nat.blt k 213 then prog_13_method_92_code else prog_13_method_93_code) else (bif Nat.blt k 215 then prog_13_method_94_code else code))))))))
def x_ml : Nat → Nat := fun k => (bif Nat.blt k 108 then (bif Nat.blt k 54 then (bif Nat.blt k 27 then (bif Nat.blt k 13 then (bif Nat.blt k 6 then (bif Nat.blt k 3 then (bif Nat.blt k 1 then 3 else (bif Nat.blt k 2 then 4 else 1)) else (bif Nat.blt k 4 then 1 else (bif Nat.blt k 5 then 2 else 1))) else (bif Nat.blt k 9 then (bif Nat.blt k 7 then 2 else (bif Nat.blt k 8 then 2 else 1)) else (bif Nat.blt k 11 then (bif Nat.blt k 10 then 6 else 8) else (bif Nat.blt k 12 then 3 else 2)))) else (bif Nat.blt k 20 then (bif Nat.blt k 16 then (bif Nat.blt k 14 then 8 else (bif Nat.blt k 15 then 1 else 8)) else (bif Nat.blt k 18 then (bif Nat.blt k 17 then 3 else 5) else (bif Nat.blt k 19 then 6 else 2))) else (bif Nat.blt k 23 then (bif Nat.blt k 21 then 1 else (bif Nat.blt k 22 then 7 else 8)) else (bif Nat.blt k 25 then (bif Nat.blt k 24 then 7 else 7) else (bif Nat.blt k 26 then 5 else 1))))) else (bif Nat.blt k 40 then (bif Nat.blt k 33 then (bif Nat.blt k 30 then (bif Nat.blt k 28 then 1 else (bif Nat.blt k 29 then 3 else 2)) else (bif Nat.blt k 31 then 2 else (bif Nat.blt k 32 then 2 else 1))) else (bif Nat.blt k 36 then (bif Nat.blt k 34 then 7 else (bif Nat.blt k 35 then 5 else 2)) else (bif Nat.blt k 38 then (bif Nat.blt k 37 then 6 else 9) else (bif Nat.blt k 39 then 4 else 4)))) else (bif Nat.blt k 47 then (bif Nat.blt k 43 then (bif Nat.blt k 41 then 1 else (bif Nat.blt k 42 then 2 else 6)) else (bif Nat.blt k 45 then (bif Nat.blt k 44 then 9 else 7) else (bif Nat.blt k 46 then 1 else 6))) else (bif Nat.blt k 50 then (bif Nat.blt k 48 then 7 else (bif Nat.blt k 49 then 6 else 2)) else (bif Nat.blt k 52 then (bif Nat.blt k 51 then 1 else 3) else (bif Nat.blt k 53 then 5 else 1)))))) else (bif Nat.blt k 81 then (bif Nat.blt k 67 then (bif Nat.blt k 60 then (bif Nat.blt k 57 then (bif Nat.blt k 55 then 5 else (bif Nat.blt k 56 then 3 else 5)) else (bif Nat.blt k 58 then 4 else (bif Nat.blt k 59 then 3 else 1))) else (bif Nat.blt k 63 then (bif Nat.blt k 61 then 5 else (bif Nat.blt k 62 then 2 else 1)) else (bif Nat.blt k 65 then (bif Nat.blt k 64 then 4 else 4) else (bif Nat.blt k 66 then 3 else 4)))) else (bif Nat.blt k 74 then (bif Nat.blt k 70 then (bif Nat.blt k 68 then 4 else (bif Nat.blt k 69 then 4 else 3)) else (bif Nat.blt k 72 then (bif Nat.blt k 71 then 1 else 4) else (bif Nat.blt k 73 then 3 else 2))) else (bif Nat.blt k 77 then (bif Nat.blt k 75 then 6 else (bif Nat.blt k 76 then 2 else 1)) else (bif Nat.blt k 79 then (bif Nat.blt k 78 then 3 else 2) else (bif Nat.blt k 80 then 1 else 9))))) else (bif Nat.blt k 94 then (bif Nat.blt k 87 then (bif Nat.blt k 84 then (bif Nat.blt k 82 then 3 else (bif Nat.blt k 83 then 2 else 3)) else (bif Nat.blt k 85 then 2 else (bif Nat.blt k 86 then 3 else 2))) else (bif Nat.blt k 90 then (bif Nat.blt k 88 then 4 else (bif Nat.blt k 89 then 6 else 2)) else (bif Nat.blt k 92 then (bif Nat.blt k 91 then 1 else 1) else (bif Nat.blt k 93 then 4 else 1)))) else (bif Nat.blt k 101 then (bif Nat.blt k 97 then (bif Nat.blt k 95 then 3 else (bif Nat.blt k 96 then 4 else 3)) else (bif Nat.blt k 99 then (bif Nat.blt k 98 then 4 else 3) else (bif Nat.blt k 100 then 4 else 2))) else (bif Nat.blt k 104 then (bif Nat.blt k 102 then 2 else (bif Nat.blt k 103 then 3 else 2)) else (bif Nat.blt k 106 then (bif Nat.blt k 105 then 3 else 3) else (bif Nat.blt k 107 then 3 else 3))))))) else (bif Nat.blt k 162 then (bif Nat.blt k 135 then (bif Nat.blt k 121 then (bif Nat.blt k 114 then (bif Nat.blt k 111 then (bif Nat.blt k 109 then 6 else (bif Nat.blt k 110 then 1 else 4)) else (bif Nat.blt k 112 then 3 else (bif Nat.blt k 113 then 2 else 1))) else (bif Nat.blt k 117 then (bif Nat.blt k 115 then 2 else (bif Nat.blt k 116 then 5 else 1)) else (bif Nat.blt k 119 then (bif Nat.blt k 118 then 3 else 2) else (bif Nat.blt k 120 then 3 else 3)))) else (bif Nat.blt k 128 then (bif Nat.blt k 124 then (bif Nat.blt k 122 then 2 else (bif Nat.blt k 123 then 1 else 1)) else (bif Nat.blt k 126 then (bif Nat.blt k 125 then 3 else 6) else (bif Nat.blt k 127 then 2 else 3))) else (bif Nat.blt k 131 then (bif Nat.blt k 129 then 1 else (bif Nat.blt k 130 then 8 else 1)) else (bif Nat.blt k 133 then (bif Nat.blt k 132 then 3 else 2) else (bif Nat.blt k 134 then 4 else 4))))) else (bif Nat.blt k 148 then (bif Nat.blt k 141 then (bif Nat.blt k 138 then (bif Nat.blt k 136 then 1 else (bif Nat.blt k 137 then 1 else 6)) else (bif Nat.blt k 139 then 3 else (bif Nat.blt k 140 then 2 else 1))) else (bif Nat.blt k 144 then (bif Nat.blt k 142 then 2 else (bif Nat.blt k 143 then 1 else 1)) else (bif Nat.blt k 146 then (bif Nat.blt k 145 then 1 else 1) else (bif Nat.blt k 147 then 4 else 1)))) else (bif Nat.blt k 155 then (bif Nat.blt k 151 then (bif Nat.blt k 149 then 3 else (bif Nat.blt k 150 then 2 else 3)) else (bif Nat.blt k 153 then (bif Nat.blt k 152 then 1 else 3) else (bif Nat.blt k 154 then 2 else 2))) else (bif Nat.blt k 158 then (bif Nat.blt k 156 then 3 else (bif Nat.blt k 157 then 1 else 4)) else (bif Nat.blt k 160 then (bif Nat.blt k 159 then 3 else 4) else (bif Nat.blt k 161 then 1 else 2)))))) else (bif Nat.blt k 189 then (bif Nat.blt k 175 then (bif Nat.blt k 168 then (bif Nat.blt k 165 then (bif Nat.blt k 163 then 3 else (bif Nat.blt k 164 then 2 else 2)) else (bif Nat.blt k 166 then 4 else (bif Nat.blt k 167 then 1 else 3))) else (bif Nat.blt k 171 then (bif Nat.blt k 169 then 4 else (bif Nat.blt k 170 then 9 else 2)) else (bif Nat.blt k 173 then (bif Nat.blt k 172 then 7 else 6) else (bif Nat.blt k 174 then 3 else 3)))) else (bif Nat.blt k 182 then (bif Nat.blt k 178 then (bif Nat.blt k 176 then 3 else (bif Nat.blt k 177 then 6 else 4)) else (bif Nat.blt k 180 then (bif Nat.blt k 179 then 4 else 5) else (bif Nat.blt k 181 then 4 else 3))) else (bif Nat.blt k 185 then (bif Nat.blt k 183 then 4 else (bif Nat.blt k 184 then 2 else 3)) else (bif Nat.blt k 187 then (bif Nat.blt k 186 then 2 else 7) else (bif Nat.blt k 188 then 4 else 10))))) else (bif Nat.blt k 202 then (bif Nat.blt k 195 then (bif Nat.blt k 192 then (bif Nat.blt k 190 then 6 else (bif Nat.blt k 191 then 5 else 7)) else (bif Nat.blt k 193 then 3 else (bif Nat.blt k 194 then 4 else 1))) else (bif Nat.blt k 198 then (bif Nat.blt k 196 then 3 else (bif Nat.blt k 197 then 9 else 2)) else (bif Nat.blt k 200 then (bif Nat.blt k 199 then 5 else 1) else (bif Nat.blt k 201 then 5 else 10)))) else (bif Nat.blt k 209 then (bif Nat.blt k 205 then (bif Nat.blt k 203 then 4 else (bif Nat.blt k 204 then 5 else 3)) else (bif Nat.blt k 207 then (bif Nat.blt k 206 then 11 else 4) else (bif Nat.blt k 208 then 7 else 3))) else (bif Nat.blt k 212 then (bif Nat.blt k 210 then 5 else (bif Nat.blt k 211 then 6 else 7)) else (bif Nat.blt k 214 then (bif Nat.blt k 213 then 3 else 2) else (bif Nat.blt k 215 then 1 else 4))))))))
def x_rt : Nat → Option FieldType := fun k => (bif Nat.blt k 108 then (bif Nat.blt k 54 then (bif Nat.blt k 27 then (bif Nat.blt k 13 then (bif Nat.blt k 6 then (bif Nat.blt k 3 then (bif Nat.blt k 1 then (some .int) else (bif Nat.blt k 2 then none else (some .int))) else (bif Nat.blt k 4 then (some .byte) else (bif Nat.blt k 5 then (some .char) else (some .boolean)))) else (bif Nat.blt k 9 then (bif Nat.blt k 7 then none else (bif Nat.blt k 8 then (some .char) else none)) else (bif Nat.blt k 11 then (bif Nat.blt k 10 then none else (some .boolean)) else (bif Nat.blt k 12 then (some .boolean) else (some .boolean))))) else (bif Nat.blt k 20 then (bif Nat.blt k 16 then (bif Nat.blt k 14 then (some .boolean) else (bif Nat.blt k 15 then none else none)) else (bif Nat.blt k 18 then (bif Nat.blt k 17 then none else (some .int)) else (bif Nat.blt k 19 then (some .int) else (some .boolean)))) else (bif Nat.blt k 23 then (bif Nat.blt k 21 then none else (bif Nat.blt k 22 then none else none)) else (bif Nat.blt k 25 then (bif Nat.blt k 24 then (some .int) else (some .int)) else (bif Nat.blt k 26 then none else none))))) else (bif Nat.blt k 40 then (bif Nat.blt k 33 then (bif Nat.blt k 30 then (bif Nat.blt k 28 then none else (bif Nat.blt k 29 then none else none)) else (bif Nat.blt k 31 then none else (bif Nat.blt k 32 then none else none))) else (bif Nat.blt k 36 then (bif Nat.blt k 34 then none else (bif Nat.blt k 35 then (some .int) else (some .int))) else (bif Nat.blt k 38 then (bif Nat.blt k 37 then none else (some .int)) else (bif Nat.blt k 39 then none else none)))) else (bif Nat.blt k 47 then (bif Nat.blt k 43 then (bif Nat.blt k 41 then none else (bif Nat.blt k 42 then none else none)) else (bif Nat.blt k 45 then (bif Nat.blt k 44 then none else none) else (bif Nat.blt k 46 then none else none))) else (bif Nat.blt k 50 then (bif Nat.blt k 48 then (some .int) else (bif Nat.blt k 49 then none else (some .int))) else (bif Nat.blt k 52 then (bif Nat.blt k 51 then none else (some .int)) else (bif Nat.blt k 53 then none else (some .boolean))))))) else (bif Nat.blt k 81 then (bif Nat.blt k 67 then (bif Nat.blt k 60 then (bif Nat.blt k 57 then (bif Nat.blt k 55 then none else (bif Nat.blt k 56 then (some .int) else (some .boolean))) else (bif Nat.blt k 58 then none else (bif Nat.blt k 59 then (some .int) else (some .boolean)))) else (bif Nat.blt k 63 then (bif Nat.blt k 61 then (some .int) else (bif Nat.blt k 62 then (some .boolean) else none)) else (bif Nat.blt k 65 then (bif Nat.blt k 64 then (some .boolean) else (some .boolean)) else (bif Nat.blt k 66 then (some .boolean) else (some .boolean))))) else (bif Nat.blt k 74 then (bif Nat.blt k 70 then (bif Nat.blt k 68 then (some .boolean) else (bif Nat.blt k 69 then (some .boolean) else (some .boolean))) else (bif Nat.blt k 72 then (bif Nat.blt k 71 then none else none) else (bif Nat.blt k 73 then (some .int) else none))) else (bif Nat.blt k 77 then (bif Nat.blt k 75 then (some .int) else (bif Nat.blt k 76 then none else none)) else (bif Nat.blt k 79 then (bif Nat.blt k 78 then none else (some .int)) else (bif Nat.blt k 80 then none else (some .int)))))) else (bif Nat.blt k 94 then (bif Nat.blt k 87 then (bif Nat.blt k 84 then (bif Nat.blt k 82 then (some .boolean) else (bif Nat.blt k 83 then (some .int) else (some .int))) else (bif Nat.blt k 85 then (some .int) else (bif Nat.blt k 86 then (some .int) else (some .boolean)))) else (bif Nat.blt k 90 then (bif Nat.blt k 88 then (some .int) else (bif Nat.blt k 89 then (some .int) else (some .int))) else (bif Nat.blt k 92 then (bif Nat.blt k 91 then (some .int) else (some .int)) else (bif Nat.blt k 93 then (some .int) else (some .boolean))))) else (bif Nat.blt k 101 then (bif Nat.blt k 97 then (bif Nat.blt k 95 then (some .int) else (bif Nat.blt k 96 then (some .int) else (some .boolean))) else (bif Nat.blt k 99 then (bif Nat.blt k 98 then (some .int) else (some .int)) else (bif Nat.blt k 100 then (some .int) else (some .int)))) else (bif Nat.blt k 104 then (bif Nat.blt k 102 then (some .int) else (bif Nat.blt k 103 then (some .int) else (some .boolean))) else (bif Nat.blt k 106 then (bif Nat.blt k 105 then (some .int) else (some .int)) else (bif Nat.blt k 107 then (some .int) else (some .int)))))))) else (bif Nat.blt k 162 then (bif Nat.blt k 135 then (bif Nat.blt k 121 then (bif Nat.blt k 114 then (bif Nat.blt k 111 then (bif Nat.blt k 109 then (some .int) else (bif Nat.blt k 110 then (some .boolean) else (some .int))) else (bif Nat.blt k 112 then (some .int) else (bif Nat.blt k 113 then (some .int) else none))) else (bif Nat.blt k 117 then (bif Nat.blt k 115 then (some .int) else (bif Nat.blt k 116 then (some .int) else (some .boolean))) else (bif Nat.blt k 119 then (bif Nat.blt k 118 then (some .int) else (some .int)) else (bif Nat.blt k 120 then (some .int) else (some .int))))) else (bif Nat.blt k 128 then (bif Nat.blt k 124 then (bif Nat.blt k 122 then (some .int) else (bif Nat.blt k 123 then (some .int) else none)) else (bif Nat.blt k 126 then (bif Nat.blt k 125 then (some .int) else (some .boolean)) else (bif Nat.blt k 127 then (some .int) else (some .int)))) else (bif Nat.blt k 131 then (bif Nat.blt k 129 then none else (bif Nat.blt k 130 then (some .int) else (some .int))) else (bif Nat.blt k 133 then (bif Nat.blt k 132 then (some .int) else (some .boolean)) else (bif Nat.blt k 134 then (some .int) else (some .int)))))) else (bif Nat.blt k 148 then (bif Nat.blt k 141 then (bif Nat.blt k 138 then (bif Nat.blt k 136 then (some .int) else (bif Nat.blt k 137 then (some .int) else (some .int))) else (bif Nat.blt k 139 then none else (bif Nat.blt k 140 then (some .int) else (some .int)))) else (bif Nat.blt k 144 then (bif Nat.blt k 142 then (some .int) else (bif Nat.blt k 143 then none else none)) else (bif Nat.blt k 146 then (bif Nat.blt k 145 then (some .boolean) else (some .boolean)) else (bif Nat.blt k 147 then none else (some .int))))) else (bif Nat.blt k 155 then (bif Nat.blt k 151 then (bif Nat.blt k 149 then (some .boolean) else (bif Nat.blt k 150 then none else none)) else (bif Nat.blt k 153 then (bif Nat.blt k 152 then (some .int) else none) else (bif Nat.blt k 154 then (some .boolean) else none))) else (bif Nat.blt k 158 then (bif Nat.blt k 156 then (some .int) else (bif Nat.blt k 157 then (some .int) else none)) else (bif Nat.blt k 160 then (bif Nat.blt k 159 then none else (some .int)) else (bif Nat.blt k 161 then (some .int) else none)))))) else (bif Nat.blt k 189 then (bif Nat.blt k 175 then (bif Nat.blt k 168 then (bif Nat.blt k 165 then (bif Nat.blt k 163 then (some .int) else (bif Nat.blt k 164 then (some .boolean) else (some .int))) else (bif Nat.blt k 166 then (some .int) else (bif Nat.blt k 167 then (some .boolean) else (some .int)))) else (bif Nat.blt k 171 then (bif Nat.blt k 169 then none else (bif Nat.blt k 170 then (some .int) else (some .boolean))) else (bif Nat.blt k 173 then (bif Nat.blt k 172 then none else (some .long)) else (bif Nat.blt k 174 then (some .int) else (some .int))))) else (bif Nat.blt k 182 then (bif Nat.blt k 178 then (bif Nat.blt k 176 then (some .int) else (bif Nat.blt k 177 then none else (some .int))) else (bif Nat.blt k 180 then (bif Nat.blt k 179 then (some .int) else (some .int)) else (bif Nat.blt k 181 then (some .int) else (some .int)))) else (bif Nat.blt k 185 then (bif Nat.blt k 183 then (some .int) else (bif Nat.blt k 184 then (some .int) else (some .int))) else (bif Nat.blt k 187 then (bif Nat.blt k 186 then (some .int) else (some .int)) else (bif Nat.blt k 188 then (some .boolean) else none))))) else (bif Nat.blt k 202 then (bif Nat.blt k 195 then (bif Nat.blt k 192 then (bif Nat.blt k 190 then (some .int) else (bif Nat.blt k 191 then (some .int) else (some .int))) else (bif Nat.blt k 193 then (some .int) else (bif Nat.blt k 194 then (some .int) else (some .int)))) else (bif Nat.blt k 198 then (bif Nat.blt k 196 then (some .int) else (bif Nat.blt k 197 then (some .int) else (some .int))) else (bif Nat.blt k 200 then (bif Nat.blt k 199 then (some .int) else (some .boolean)) else (bif Nat.blt k 201 then (some .int) else none)))) else (bif Nat.blt k 209 then (bif Nat.blt k 205 then (bif Nat.blt k 203 then none else (bif Nat.blt k 204 then (some .boolean) else (some .int))) else (bif Nat.blt k 207 then (bif Nat.blt k 206 then (some .int) else none) else (bif Nat.blt k 208 then none else (some .int)))) else (bif Nat.blt k 212 then (bif Nat.blt k 210 then (some .int) else (bif Nat.blt k 211 then (some .int) else (some .int))) else (bif Nat.blt k 214 then (bif Nat.blt k 213 then (some .int) else (some .int)) else (bif Nat.blt k 215 then (some .int) else (some .boolean)))))))))
def x_na : Nat → Nat := fun k => (bif Nat.blt k 108 then (bif Nat.blt k 54 then (bif Nat.blt k 27 then (bif Nat.blt k 13 then (bif Nat.blt k 6 then (bif Nat.blt k 3 then (bif Nat.blt k 1 then 3 else (bif Nat.blt k 2 then 2 else 1)) else (bif Nat.blt k 4 then 1 else (bif Nat.blt k 5 then 2 else 1))) else (bif Nat.blt k 9 then (bif Nat.blt k 7 then 2 else (bif Nat.blt k 8 then 2 else 1)) else (bif Nat.blt k 11 then (bif Nat.blt k 10 then 4 else 4) else (bif Nat.blt k 12 then 3 else 2)))) else (bif Nat.blt k 20 then (bif Nat.blt k 16 then (bif Nat.blt k 14 then 4 else (bif Nat.blt k 15 then 1 else 4)) else (bif Nat.blt k 18 then (bif Nat.blt k 17 then 3 else 3) else (bif Nat.blt k 19 then 4 else 2))) else (bif Nat.blt k 23 then (bif Nat.blt k 21 then 1 else (bif Nat.blt k 22 then 3 else 3)) else (bif Nat.blt k 25 then (bif Nat.blt k 24 then 5 else 6) else (bif Nat.blt k 26 then 3 else 1))))) else (bif Nat.blt k 40 then (bif Nat.blt k 33 then (bif Nat.blt k 30 then (bif Nat.blt k 28 then 1 else (bif Nat.blt k 29 then 3 else 2)) else (bif Nat.blt k 31 then 2 else (bif Nat.blt k 32 then 2 else 1))) else (bif Nat.blt k 36 then (bif Nat.blt k 34 then 3 else (bif Nat.blt k 35 then 4 else 2)) else (bif Nat.blt k 38 then (bif Nat.blt k 37 then 4 else 5) else (bif Nat.blt k 39 then 2 else 3)))) else (bif Nat.blt k 47 then (bif Nat.blt k 43 then (bif Nat.blt k 41 then 1 else (bif Nat.blt k 42 then 1 else 3)) else (bif Nat.blt k 45 then (bif Nat.blt k 44 then 5 else 4) else (bif Nat.blt k 46 then 1 else 3))) else (bif Nat.blt k 50 then (bif Nat.blt k 48 then 4 else (bif Nat.blt k 49 then 3 else 2)) else (bif Nat.blt k 52 then (bif Nat.blt k 51 then 1 else 2) else (bif Nat.blt k 53 then 2 else 1)))))) else (bif Nat.blt k 81 then (bif Nat.blt k 67 then (bif Nat.blt k 60 then (bif Nat.blt k 57 then (bif Nat.blt k 55 then 4 else (bif Nat.blt k 56 then 3 else 4)) else (bif Nat.blt k 58 then 4 else (bif Nat.blt k 59 then 3 else 1))) else (bif Nat.blt k 63 then (bif Nat.blt k 61 then 3 else (bif Nat.blt k 62 then 1 else 1)) else (bif Nat.blt k 65 then (bif Nat.blt k 64 then 2 else 2) else (bif Nat.blt k 66 then 2 else 2)))) else (bif Nat.blt k 74 then (bif Nat.blt k 70 then (bif Nat.blt k 68 then 2 else (bif Nat.blt k 69 then 2 else 2)) else (bif Nat.blt k 72 then (bif Nat.blt k 71 then 1 else 1) else (bif Nat.blt k 73 then 3 else 2))) else (bif Nat.blt k 77 then (bif Nat.blt k 75 then 3 else (bif Nat.blt k 76 then 2 else 1)) else (bif Nat.blt k 79 then (bif Nat.blt k 78 then 2 else 1) else (bif Nat.blt k 80 then 1 else 7))))) else (bif Nat.blt k 94 then (bif Nat.blt k 87 then (bif Nat.blt k 84 then (bif Nat.blt k 82 then 3 else (bif Nat.blt k 83 then 2 else 3)) else (bif Nat.blt k 85 then 2 else (bif Nat.blt k 86 then 3 else 2))) else (bif Nat.blt k 90 then (bif Nat.blt k 88 then 3 else (bif Nat.blt k 89 then 6 else 2)) else (bif Nat.blt k 92 then (bif Nat.blt k 91 then 1 else 1) else (bif Nat.blt k 93 then 4 else 1)))) else (bif Nat.blt k 101 then (bif Nat.blt k 97 then (bif Nat.blt k 95 then 3 else (bif Nat.blt k 96 then 4 else 3)) else (bif Nat.blt k 99 then (bif Nat.blt k 98 then 3 else 3) else (bif Nat.blt k 100 then 3 else 1))) else (bif Nat.blt k 104 then (bif Nat.blt k 102 then 2 else (bif Nat.blt k 103 then 3 else 2)) else (bif Nat.blt k 106 then (bif Nat.blt k 105 then 3 else 3) else (bif Nat.blt k 107 then 3 else 3))))))) else (bif Nat.blt k 162 then (bif Nat.blt k 135 then (bif Nat.blt k 121 then (bif Nat.blt k 114 then (bif Nat.blt k 111 then (bif Nat.blt k 109 then 2 else (bif Nat.blt k 110 then 1 else 3)) else (bif Nat.blt k 112 then 3 else (bif Nat.blt k 113 then 2 else 1))) else (bif Nat.blt k 117 then (bif Nat.blt k 115 then 2 else (bif Nat.blt k 116 then 4 else 1)) else (bif Nat.blt k 119 then (bif Nat.blt k 118 then 3 else 1) else (bif Nat.blt k 120 then 2 else 2)))) else (bif Nat.blt k 128 then (bif Nat.blt k 124 then (bif Nat.blt k 122 then 2 else (bif Nat.blt k 123 then 1 else 1)) else (bif Nat.blt k 126 then (bif Nat.blt k 125 then 2 else 3) else (bif Nat.blt k 127 then 2 else 2))) else (bif Nat.blt k 131 then (bif Nat.blt k 129 then 1 else (bif Nat.blt k 130 then 7 else 1)) else (bif Nat.blt k 133 then (bif Nat.blt k 132 then 3 else 2) else (bif Nat.blt k 134 then 2 else 3))))) else (bif Nat.blt k 148 then (bif Nat.blt k 141 then (bif Nat.blt k 138 then (bif Nat.blt k 136 then 1 else (bif Nat.blt k 137 then 1 else 6)) else (bif Nat.blt k 139 then 2 else (bif Nat.blt k 140 then 2 else 1))) else (bif Nat.blt k 144 then (bif Nat.blt k 142 then 1 else (bif Nat.blt k 143 then 1 else 1)) else (bif Nat.blt k 146 then (bif Nat.blt k 145 then 1 else 1) else (bif Nat.blt k 147 then 1 else 1)))) else (bif Nat.blt k 155 then (bif Nat.blt k 151 then (bif Nat.blt k 149 then 2 else (bif Nat.blt k 150 then 2 else 2)) else (bif Nat.blt k 153 then (bif Nat.blt k 152 then 1 else 3) else (bif Nat.blt k 154 then 2 else 2))) else (bif Nat.blt k 158 then (bif Nat.blt k 156 then 1 else (bif Nat.blt k 157 then 1 else 4)) else (bif Nat.blt k 160 then (bif Nat.blt k 159 then 3 else 2) else (bif Nat.blt k 161 then 1 else 2)))))) else (bif Nat.blt k 189 then (bif Nat.blt k 175 then (bif Nat.blt k 168 then (bif Nat.blt k 165 then (bif Nat.blt k 163 then 1 else (bif Nat.blt k 164 then 1 else 1)) else (bif Nat.blt k 166 then 4 else (bif Nat.blt k 167 then 1 else 3))) else (bif Nat.blt k 171 then (bif Nat.blt k 169 then 3 else (bif Nat.blt k 170 then 5 else 2)) else (bif Nat.blt k 173 then (bif Nat.blt k 172 then 3 else 4) else (bif Nat.blt k 174 then 3 else 3)))) else (bif Nat.blt k 182 then (bif Nat.blt k 178 then (bif Nat.blt k 176 then 3 else (bif Nat.blt k 177 then 2 else 4)) else (bif Nat.blt k 180 then (bif Nat.blt k 179 then 3 else 3) else (bif Nat.blt k 181 then 3 else 3))) else (bif Nat.blt k 185 then (bif Nat.blt k 183 then 2 else (bif Nat.blt k 184 then 1 else 1)) else (bif Nat.blt k 187 then (bif Nat.blt k 186 then 2 else 3) else (bif Nat.blt k 188 then 2 else 3))))) else (bif Nat.blt k 202 then (bif Nat.blt k 195 then (bif Nat.blt k 192 then (bif Nat.blt k 190 then 3 else (bif Nat.blt k 191 then 3 else 3)) else (bif Nat.blt k 193 then 3 else (bif Nat.blt k 194 then 2 else 1))) else (bif Nat.blt k 198 then (bif Nat.blt k 196 then 2 else (bif Nat.blt k 197 then 3 else 2)) else (bif Nat.blt k 200 then (bif Nat.blt k 199 then 2 else 1) else (bif Nat.blt k 201 then 3 else 2)))) else (bif Nat.blt k 209 then (bif Nat.blt k 205 then (bif Nat.blt k 203 then 1 else (bif Nat.blt k 204 then 4 else 3)) else (bif Nat.blt k 207 then (bif Nat.blt k 206 then 2 else 1) else (bif Nat.blt k 208 then 3 else 3))) else (bif Nat.blt k 212 then (bif Nat.blt k 210 then 2 else (bif Nat.blt k 211 then 4 else 3)) else (bif Nat.blt k 214 then (bif Nat.blt k 213 then 1 else 2) else (bif Nat.blt k 215 then 1 else 1))))))))
def x_np : Nat → Nat := fun k => (bif Nat.blt k 108 then (bif Nat.blt k 54 then (bif Nat.blt k 27 then (bif Nat.blt k 13 then (bif Nat.blt k 6 then (bif Nat.blt k 3 then (bif Nat.blt k 1 then 3 else (bif Nat.blt k 2 then 2 else 0)) else (bif Nat.blt k 4 then 0 else (bif Nat.blt k 5 then 1 else 0))) else (bif Nat.blt k 9 then (bif Nat.blt k 7 then 2 else (bif Nat.blt k 8 then 2 else 0)) else (bif Nat.blt k 11 then (bif Nat.blt k 10 then 3 else 3) else (bif Nat.blt k 12 then 2 else 1)))) else (bif Nat.blt k 20 then (bif Nat.blt k 16 then (bif Nat.blt k 14 then 3 else (bif Nat.blt k 15 then 0 else 3)) else (bif Nat.blt k 18 then (bif Nat.blt k 17 then 2 else 2) else (bif Nat.blt k 19 then 3 else 1))) else (bif Nat.blt k 23 then (bif Nat.blt k 21 then 0 else (bif Nat.blt k 22 then 2 else 2)) else (bif Nat.blt k 25 then (bif Nat.blt k 24 then 4 else 5) else (bif Nat.blt k 26 then 2 else 0))))) else (bif Nat.blt k 40 then (bif Nat.blt k 33 then (bif Nat.blt k 30 then (bif Nat.blt k 28 then 0 else (bif Nat.blt k 29 then 2 else 1)) else (bif Nat.blt k 31 then 1 else (bif Nat.blt k 32 then 1 else 0))) else (bif Nat.blt k 36 then (bif Nat.blt k 34 then 2 else (bif Nat.blt k 35 then 4 else 2)) else (bif Nat.blt k 38 then (bif Nat.blt k 37 then 3 else 4) else (bif Nat.blt k 39 then 1 else 2)))) else (bif Nat.blt k 47 then (bif Nat.blt k 43 then (bif Nat.blt k 41 then 0 else (bif Nat.blt k 42 then 0 else 2)) else (bif Nat.blt k 45 then (bif Nat.blt k 44 then 4 else 3) else (bif Nat.blt k 46 then 0 else 2))) else (bif Nat.blt k 50 then (bif Nat.blt k 48 then 3 else (bif Nat.blt k 49 then 2 else 2)) else (bif Nat.blt k 52 then (bif Nat.blt k 51 then 0 else 1) else (bif Nat.blt k 53 then 1 else 1)))))) else (bif Nat.blt k 81 then (bif Nat.blt k 67 then (bif Nat.blt k 60 then (bif Nat.blt k 57 then (bif Nat.blt k 55 then 3 else (bif Nat.blt k 56 then 3 else 4)) else (bif Nat.blt k 58 then 3 else (bif Nat.blt k 59 then 3 else 1))) else (bif Nat.blt k 63 then (bif Nat.blt k 61 then 3 else (bif Nat.blt k 62 then 0 else 0)) else (bif Nat.blt k 65 then (bif Nat.blt k 64 then 1 else 1) else (bif Nat.blt k 66 then 1 else 1)))) else (bif Nat.blt k 74 then (bif Nat.blt k 70 then (bif Nat.blt k 68 then 1 else (bif Nat.blt k 69 then 1 else 1)) else (bif Nat.blt k 72 then (bif Nat.blt k 71 then 0 else 0) else (bif Nat.blt k 73 then 2 else 2))) else (bif Nat.blt k 77 then (bif Nat.blt k 75 then 2 else (bif Nat.blt k 76 then 1 else 0)) else (bif Nat.blt k 79 then (bif Nat.blt k 78 then 1 else 0) else (bif Nat.blt k 80 then 0 else 6))))) else (bif Nat.blt k 94 then (bif Nat.blt k 87 then (bif Nat.blt k 84 then (bif Nat.blt k 82 then 3 else (bif Nat.blt k 83 then 1 else 3)) else (bif Nat.blt k 85 then 1 else (bif Nat.blt k 86 then 2 else 1))) else (bif Nat.blt k 90 then (bif Nat.blt k 88 then 2 else (bif Nat.blt k 89 then 5 else 1)) else (bif Nat.blt k 92 then (bif Nat.blt k 91 then 0 else 0) else (bif Nat.blt k 93 then 3 else 1)))) else (bif Nat.blt k 101 then (bif Nat.blt k 97 then (bif Nat.blt k 95 then 2 else (bif Nat.blt k 96 then 3 else 2)) else (bif Nat.blt k 99 then (bif Nat.blt k 98 then 2 else 2) else (bif Nat.blt k 100 then 3 else 0))) else (bif Nat.blt k 104 then (bif Nat.blt k 102 then 1 else (bif Nat.blt k 103 then 2 else 1)) else (bif Nat.blt k 106 then (bif Nat.blt k 105 then 2 else 2) else (bif Nat.blt k 107 then 2 else 2))))))) else (bif Nat.blt k 162 then (bif Nat.blt k 135 then (bif Nat.blt k 121 then (bif Nat.blt k 114 then (bif Nat.blt k 111 then (bif Nat.blt k 109 then 1 else (bif Nat.blt k 110 then 1 else 2)) else (bif Nat.blt k 112 then 2 else (bif Nat.blt k 113 then 1 else 0))) else (bif Nat.blt k 117 then (bif Nat.blt k 115 then 1 else (bif Nat.blt k 116 then 3 else 1)) else (bif Nat.blt k 119 then (bif Nat.blt k 118 then 2 else 0) else (bif Nat.blt k 120 then 1 else 1)))) else (bif Nat.blt k 128 then (bif Nat.blt k 124 then (bif Nat.blt k 122 then 1 else (bif Nat.blt k 123 then 0 else 0)) else (bif Nat.blt k 126 then (bif Nat.blt k 125 then 1 else 3) else (bif Nat.blt k 127 then 1 else 1))) else (bif Nat.blt k 131 then (bif Nat.blt k 129 then 0 else (bif Nat.blt k 130 then 6 else 1)) else (bif Nat.blt k 133 then (bif Nat.blt k 132 then 2 else 1) else (bif Nat.blt k 134 then 1 else 2))))) else (bif Nat.blt k 148 then (bif Nat.blt k 141 then (bif Nat.blt k 138 then (bif Nat.blt k 136 then 1 else (bif Nat.blt k 137 then 1 else 5)) else (bif Nat.blt k 139 then 1 else (bif Nat.blt k 140 then 1 else 0))) else (bif Nat.blt k 144 then (bif Nat.blt k 142 then 0 else (bif Nat.blt k 143 then 0 else 0)) else (bif Nat.blt k 146 then (bif Nat.blt k 145 then 1 else 1) else (bif Nat.blt k 147 then 0 else 0)))) else (bif Nat.blt k 155 then (bif Nat.blt k 151 then (bif Nat.blt k 149 then 1 else (bif Nat.blt k 150 then 1 else 1)) else (bif Nat.blt k 153 then (bif Nat.blt k 152 then 0 else 2) else (bif Nat.blt k 154 then 1 else 1))) else (bif Nat.blt k 158 then (bif Nat.blt k 156 then 0 else (bif Nat.blt k 157 then 0 else 3)) else (bif Nat.blt k 160 then (bif Nat.blt k 159 then 2 else 1) else (bif Nat.blt k 161 then 1 else 1)))))) else (bif Nat.blt k 189 then (bif Nat.blt k 175 then (bif Nat.blt k 168 then (bif Nat.blt k 165 then (bif Nat.blt k 163 then 0 else (bif Nat.blt k 164 then 0 else 0)) else (bif Nat.blt k 166 then 3 else (bif Nat.blt k 167 then 1 else 2))) else (bif Nat.blt k 171 then (bif Nat.blt k 169 then 2 else (bif Nat.blt k 170 then 4 else 1)) else (bif Nat.blt k 173 then (bif Nat.blt k 172 then 2 else 3) else (bif Nat.blt k 174 then 2 else 2)))) else (bif Nat.blt k 182 then (bif Nat.blt k 178 then (bif Nat.blt k 176 then 2 else (bif Nat.blt k 177 then 1 else 3)) else (bif Nat.blt k 180 then (bif Nat.blt k 179 then 2 else 2) else (bif Nat.blt k 181 then 2 else 2))) else (bif Nat.blt k 185 then (bif Nat.blt k 183 then 1 else (bif Nat.blt k 184 then 1 else 0)) else (bif Nat.blt k 187 then (bif Nat.blt k 186 then 1 else 2) else (bif Nat.blt k 188 then 1 else 2))))) else (bif Nat.blt k 202 then (bif Nat.blt k 195 then (bif Nat.blt k 192 then (bif Nat.blt k 190 then 2 else (bif Nat.blt k 191 then 2 else 2)) else (bif Nat.blt k 193 then 2 else (bif Nat.blt k 194 then 1 else 0))) else (bif Nat.blt k 198 then (bif Nat.blt k 196 then 1 else (bif Nat.blt k 197 then 2 else 1)) else (bif Nat.blt k 200 then (bif Nat.blt k 199 then 1 else 1) else (bif Nat.blt k 201 then 2 else 1)))) else (bif Nat.blt k 209 then (bif Nat.blt k 205 then (bif Nat.blt k 203 then 0 else (bif Nat.blt k 204 then 3 else 2)) else (bif Nat.blt k 207 then (bif Nat.blt k 206 then 1 else 0) else (bif Nat.blt k 208 then 2 else 2))) else (bif Nat.blt k 212 then (bif Nat.blt k 210 then 1 else (bif Nat.blt k 211 then 3 else 2)) else (bif Nat.blt k 214 then (bif Nat.blt k 213 then 0 else 1) else (bif Nat.blt k 215 then 0 else 1))))))))
def x_ow : Nat → Nat := fun k => (bif Nat.blt k 108 then (bif Nat.blt k 54 then (bif Nat.blt k 27 then (bif Nat.blt k 13 then (bif Nat.blt k 6 then (bif Nat.blt k 3 then (bif Nat.blt k 1 then 16 else (bif Nat.blt k 2 then 13 else 14)) else (bif Nat.blt k 4 then 14 else (bif Nat.blt k 5 then 14 else 14))) else (bif Nat.blt k 9 then (bif Nat.blt k 7 then 14 else (bif Nat.blt k 8 then 15 else 0)) else (bif Nat.blt k 11 then (bif Nat.blt k 10 then 0 else 0) else (bif Nat.blt k 12 then 0 else 0)))) else (bif Nat.blt k 20 then (bif Nat.blt k 16 then (bif Nat.blt k 14 then 0 else (bif Nat.blt k 15 then 1 else 1)) else (bif Nat.blt k 18 then (bif Nat.blt k 17 then 1 else 1) else (bif Nat.blt k 19 then 1 else 1))) else (bif Nat.blt k 23 then (bif Nat.blt k 21 then 2 else (bif Nat.blt k 22 then 2 else 2)) else (bif Nat.blt k 25 then (bif Nat.blt k 24 then 2 else 2) else (bif Nat.blt k 26 then 2 else 3))))) else (bif Nat.blt k 40 then (bif Nat.blt k 33 then (bif Nat.blt k 30 then (bif Nat.blt k 28 then 3 else (bif Nat.blt k 29 then 3 else 3)) else (bif Nat.blt k 31 then 3 else (bif Nat.blt k 32 then 3 else 4))) else (bif Nat.blt k 36 then (bif Nat.blt k 34 then 4 else (bif Nat.blt k 35 then 4 else 4)) else (bif Nat.blt k 38 then (bif Nat.blt k 37 then 4 else 4) else (bif Nat.blt k 39 then 4 else 4)))) else (bif Nat.blt k 47 then (bif Nat.blt k 43 then (bif Nat.blt k 41 then 5 else (bif Nat.blt k 42 then 5 else 5)) else (bif Nat.blt k 45 then (bif Nat.blt k 44 then 5 else 5) else (bif Nat.blt k 46 then 6 else 6))) else (bif Nat.blt k 50 then (bif Nat.blt k 48 then 6 else (bif Nat.blt k 49 then 6 else 6)) else (bif Nat.blt k 52 then (bif Nat.blt k 51 then 7 else 7) else (bif Nat.blt k 53 then 7 else 7)))))) else (bif Nat.blt k 81 then (bif Nat.blt k 67 then (bif Nat.blt k 60 then (bif Nat.blt k 57 then (bif Nat.blt k 55 then 7 else (bif Nat.blt k 56 then 7 else 7)) else (bif Nat.blt k 58 then 7 else (bif Nat.blt k 59 then 7 else 7))) else (bif Nat.blt k 63 then (bif Nat.blt k 61 then 7 else (bif Nat.blt k 62 then 7 else 7)) else (bif Nat.blt k 65 then (bif Nat.blt k 64 then 7 else 7) else (bif Nat.blt k 66 then 7 else 7)))) else (bif Nat.blt k 74 then (bif Nat.blt k 70 then (bif Nat.blt k 68 then 7 else (bif Nat.blt k 69 then 7 else 7)) else (bif Nat.blt k 72 then (bif Nat.blt k 71 then 8 else 8) else (bif Nat.blt k 73 then 8 else 8))) else (bif Nat.blt k 77 then (bif Nat.blt k 75 then 8 else (bif Nat.blt k 76 then 8 else 9)) else (bif Nat.blt k 79 then (bif Nat.blt k 78 then 9 else 9) else (bif Nat.blt k 80 then 10 else 10))))) else (bif Nat.blt k 94 then (bif Nat.blt k 87 then (bif Nat.blt k 84 then (bif Nat.blt k 82 then 10 else (bif Nat.blt k 83 then 10 else 10)) else (bif Nat.blt k 85 then 10 else (bif Nat.blt k 86 then 10 else 10))) else (bif Nat.blt k 90 then (bif Nat.blt k 88 then 10 else (bif Nat.blt k 89 then 10 else 10)) else (bif Nat.blt k 92 then (bif Nat.blt k 91 then 10 else 10) else (bif Nat.blt k 93 then 10 else 10)))) else (bif Nat.blt k 101 then (bif Nat.blt k 97 then (bif Nat.blt k 95 then 10 else (bif Nat.blt k 96 then 10 else 10)) else (bif Nat.blt k 99 then (bif Nat.blt k 98 then 10 else 10) else (bif Nat.blt k 100 then 10 else 10))) else (bif Nat.blt k 104 then (bif Nat.blt k 102 then 10 else (bif Nat.blt k 103 then 10 else 10)) else (bif Nat.blt k 106 then (bif Nat.blt k 105 then 10 else 10) else (bif Nat.blt k 107 then 10 else 10))))))) else (bif Nat.blt k 162 then (bif Nat.blt k 135 then (bif Nat.blt k 121 then (bif Nat.blt k 114 then (bif Nat.blt k 111 then (bif Nat.blt k 109 then 10 else (bif Nat.blt k 110 then 10 else 10)) else (bif Nat.blt k 112 then 10 else (bif Nat.blt k 113 then 10 else 10))) else (bif Nat.blt k 117 then (bif Nat.blt k 115 then 10 else (bif Nat.blt k 116 then 10 else 10)) else (bif Nat.blt k 119 then (bif Nat.blt k 118 then 10 else 10) else (bif Nat.blt k 120 then 10 else 10)))) else (bif Nat.blt k 128 then (bif Nat.blt k 124 then (bif Nat.blt k 122 then 10 else (bif Nat.blt k 123 then 10 else 11)) else (bif Nat.blt k 126 then (bif Nat.blt k 125 then 11 else 11) else (bif Nat.blt k 127 then 11 else 11))) else (bif Nat.blt k 131 then (bif Nat.blt k 129 then 11 else (bif Nat.blt k 130 then 11 else 11)) else (bif Nat.blt k 133 then (bif Nat.blt k 132 then 11 else 11) else (bif Nat.blt k 134 then 11 else 11))))) else (bif Nat.blt k 148 then (bif Nat.blt k 141 then (bif Nat.blt k 138 then (bif Nat.blt k 136 then 11 else (bif Nat.blt k 137 then 11 else 11)) else (bif Nat.blt k 139 then 11 else (bif Nat.blt k 140 then 11 else 11))) else (bif Nat.blt k 144 then (bif Nat.blt k 142 then 11 else (bif Nat.blt k 143 then 11 else 11)) else (bif Nat.blt k 146 then (bif Nat.blt k 145 then 11 else 11) else (bif Nat.blt k 147 then 11 else 11)))) else (bif Nat.blt k 155 then (bif Nat.blt k 151 then (bif Nat.blt k 149 then 11 else (bif Nat.blt k 150 then 11 else 11)) else (bif Nat.blt k 153 then (bif Nat.blt k 152 then 11 else 11) else (bif Nat.blt k 154 then 11 else 11))) else (bif Nat.blt k 158 then (bif Nat.blt k 156 then 11 else (bif Nat.blt k 157 then 11 else 11)) else (bif Nat.blt k 160 then (bif Nat.blt k 159 then 11 else 11) else (bif Nat.blt k 161 then 11 else 11)))))) else (bif Nat.blt k 189 then (bif Nat.blt k 175 then (bif Nat.blt k 168 then (bif Nat.blt k 165 then (bif Nat.blt k 163 then 11 else (bif Nat.blt k 164 then 11 else 11)) else (bif Nat.blt k 166 then 11 else (bif Nat.blt k 167 then 11 else 11))) else (bif Nat.blt k 171 then (bif Nat.blt k 169 then 11 else (bif Nat.blt k 170 then 11 else 11)) else (bif Nat.blt k 173 then (bif Nat.blt k 172 then 11 else 11) else (bif Nat.blt k 174 then 11 else 11)))) else (bif Nat.blt k 182 then (bif Nat.blt k 178 then (bif Nat.blt k 176 then 11 else (bif Nat.blt k 177 then 11 else 11)) else (bif Nat.blt k 180 then (bif Nat.blt k 179 then 11 else 11) else (bif Nat.blt k 181 then 11 else 11))) else (bif Nat.blt k 185 then (bif Nat.blt k 183 then 11 else (bif Nat.blt k 184 then 11 else 11)) else (bif Nat.blt k 187 then (bif Nat.blt k 186 then 11 else 11) else (bif Nat.blt k 188 then 11 else 11))))) else (bif Nat.blt k 202 then (bif Nat.blt k 195 then (bif Nat.blt k 192 then (bif Nat.blt k 190 then 11 else (bif Nat.blt k 191 then 11 else 11)) else (bif Nat.blt k 193 then 11 else (bif Nat.blt k 194 then 11 else 11))) else (bif Nat.blt k 198 then (bif Nat.blt k 196 then 11 else (bif Nat.blt k 197 then 11 else 11)) else (bif Nat.blt k 200 then (bif Nat.blt k 199 then 11 else 11) else (bif Nat.blt k 201 then 11 else 11)))) else (bif Nat.blt k 209 then (bif Nat.blt k 205 then (bif Nat.blt k 203 then 11 else (bif Nat.blt k 204 then 11 else 11)) else (bif Nat.blt k 207 then (bif Nat.blt k 206 then 11 else 11) else (bif Nat.blt k 208 then 11 else 11))) else (bif Nat.blt k 212 then (bif Nat.blt k 210 then 11 else (bif Nat.blt k 211 then 11 else 11)) else (bif Nat.blt k 214 then (bif Nat.blt k 213 then 11 else 11) else (bif Nat.blt k 215 then 11 else 12))))))))
def x_on : Nat → String := fun k => (bif Nat.blt k 8 then (bif Nat.blt k 4 then (bif Nat.blt k 2 then (bif Nat.blt k 1 then "FilmPrinter$Asker" else "FilmPrinter$Edition") else (bif Nat.blt k 3 then "FilmPrinter$Explainer" else "FilmPrinter$Law")) else (bif Nat.blt k 6 then (bif Nat.blt k 5 then "FilmPrinter$Maker" else "FilmPrinter$Matcher") else (bif Nat.blt k 7 then "FilmPrinter$Projector" else "FilmPrinter$Reader"))) else (bif Nat.blt k 12 then (bif Nat.blt k 10 then (bif Nat.blt k 9 then "FilmPrinter$State" else "FilmPrinter$Tape") else (bif Nat.blt k 11 then "FilmPrinter" else "FilmPrinterModel")) else (bif Nat.blt k 14 then (bif Nat.blt k 13 then "FilmPrinterLaw" else "java/util/Arrays") else (bif Nat.blt k 15 then "java/lang/String" else (bif Nat.blt k 16 then "java/lang/StringLatin1" else "jdk/internal/util/Preconditions")))))
def x_cnt : Nat := 215
/-- the tables in pieces: a word by piece and place -/
def x_pc : Nat → List Cond := fun k => match k with
  | 0 => k2_sels lw_privs
  | 1 => tables_1_1
  | 2 => tables_1_2
  | 3 => tables_1_3
  | 4 => tables_1_4
  | 5 => tables_1_5
  | 6 => tables_1_6
  | 7 => tables_1_7
  | _ => []
theorem x_pc_in : ∀ (k : Nat) (w : Cond), w ∈ x_pc k → w ∈ lw_tbl := by
  intro k w h
  unfold lw_tbl
  match k, h with
  | 0, h => exact List.mem_append_left _ h
  | 1, h => exact List.mem_append_right _ (show w ∈ tables_1 by unfold tables_1; exact List.mem_append_left _ h)
  | 2, h => exact List.mem_append_right _ (show w ∈ tables_1 by unfold tables_1; exact List.mem_append_right _ (List.mem_append_left _ h))
  | 3, h => exact List.mem_append_right _ (show w ∈ tables_1 by unfold tables_1; exact List.mem_append_right _ (List.mem_append_right _ (List.mem_append_left _ h)))
  | 4, h => exact List.mem_append_right _ (show w ∈ tables_1 by unfold tables_1; exact List.mem_append_right _ (List.mem_append_right _ (List.mem_append_right _ (List.mem_append_left _ h))))
  | 5, h => exact List.mem_append_right _ (show w ∈ tables_1 by unfold tables_1; exact List.mem_append_right _ (List.mem_append_right _ (List.mem_append_right _ (List.mem_append_right _ (List.mem_append_left _ h)))))
  | 6, h => exact List.mem_append_right _ (show w ∈ tables_1 by unfold tables_1; exact List.mem_append_right _ (List.mem_append_right _ (List.mem_append_right _ (List.mem_append_right _ (List.mem_append_right _ (List.mem_append_left _ h))))))
  | 7, h => exact List.mem_append_right _ (show w ∈ tables_1 by unfold tables_1; exact List.mem_append_right _ (List.mem_append_right _ (List.mem_append_right _ (List.mem_append_right _ (List.mem_append_right _ (List.mem_append_right _ h))))))
  | k + 8, h => exact absurd h List.not_mem_nil
/-- a word stands in the tables, and keeps -/
def x_at (q : Nat × Nat) (w : Cond) : Bool := goodWord w && decide ((x_pc q.1)[q.2]? = some w)
theorem x_at_in {q : Nat × Nat} {w : Cond} (h : x_at q w = true) : w ∈ x_tbl := by
  simp only [x_at, Bool.and_eq_true, decide_eq_true_eq] at h
  exact List.mem_filter.mpr ⟨x_pc_in _ _ (List.mem_of_getElem? h.2), h.1⟩
theorem x_tbl_good : GoodIn x_tbl x_tbl := fun w hw => ⟨hw, good_of_word (List.mem_filter.mp hw).2⟩
end
section
/-! THE ABSTRACT MACHINE: values over the integers, cells numbered in the order of their making -/
abbrev xV : Type := Int ⊕ Int ⊕ Option Nat ⊕ Nat ⊕ Nat ⊕ Unit
abbrev vI (x : Int) : xV := .inl x
abbrev vL (x : Int) : xV := .inr (.inl x)
abbrev vR (k : Nat) : xV := .inr (.inr (.inl (some k)))
abbrev vN : xV := .inr (.inr (.inl none))
abbrev vE (j : Nat) : xV := .inr (.inr (.inr (.inl j)))
abbrev vS (j : Nat) : xV := .inr (.inr (.inr (.inr (.inl j))))
abbrev vU : xV := .inr (.inr (.inr (.inr (.inr ()))))
/-- a cell: an object (number of its class, fields), an array of numbers (kind 0 int, 1 boolean, 2 long; length; contents), an array of references -/
abbrev xC : Type := (Nat × List xV) ⊕ (Nat × Nat × (Nat → Int)) ⊕ (Nat × (Nat → Option Nat))
abbrev c_O (ci : Nat) (fs : List xV) : xC := .inl (ci, fs)
abbrev c_A (k n : Nat) (f : Nat → Int) : xC := .inr (.inl (k, n, f))
abbrev c_R (n : Nat) (f : Nat → Option Nat) : xC := .inr (.inr (n, f))
/-- the heap: cells, how many, slots in all -/
abbrev xH : Type := (Nat → Option xC) × Nat × Nat
/-- what lies outside: arrays that nobody writes (kind 0 int, 3 byte; length; contents) -/
abbrev xX : Type := Nat → Nat × Nat × (Nat → Int)
/-- a step's end: on at (pc, locals, stack, heap); a call (method, arguments, pc behind it, stack below); an answer -/
abbrev xR : Type := (Nat × List xV × List xV × xH) ⊕ (Nat × List xV × Nat × List xV) ⊕ (Option xV)
abbrev xF : Type := Nat → List xV → List xV → xH → Option xR
abbrev xr (x : Int) : Prop := -2147483648 ≤ x ∧ x ≤ 2147483647
abbrev xrl (x : Int) : Prop := -9223372036854775808 ≤ x ∧ x ≤ 9223372036854775807
abbrev xin (i : Int) (n : Nat) : Prop := 0 ≤ i ∧ i < n
def xup {α : Type} (f : Nat → α) (k : Nat) (v : α) : Nat → α := fun j => if j = k then v else f j
def xset (h : xH) (k : Nat) (c : xC) : xH := (xup h.1 k (some c), h.2.1, h.2.2)
def xnew (h : xH) (c : xC) (sz : Nat) : xH := (xup h.1 h.2.1 (some c), h.2.1 + 1, h.2.2 + sz)
def xon (pc : Nat) (L S : List xV) (h : xH) : Option xR := some (.inl (pc, L, S, h))
def xkill (L : List xV) (i : Nat) : List xV := match i with
  | 0 => L
  | j + 1 => match L[j]? with
    | some (.inr (.inl _)) => L.set j vU
    | _ => L
def xst1 (L : List xV) (i : Nat) (v : xV) : List xV := (xkill L i).set i v
def xst2 (L : List xV) (i : Nat) (v : xV) : List xV := ((xkill L i).set i v).set (i + 1) vU
def xcat (v : xV) : Nat := match v with
  | .inr (.inl _) => 2
  | _ => 1
def xwd (S : List xV) : Nat := (S.map xcat).sum
/-- a method's first locals -/
def xlo (as : List xV) : List xV := as.flatMap fun v => match v with
  | .inr (.inl x) => [vL x, vU]
  | v => [v]
def xent (n : Nat) (as : List xV) : List xV := xlo as ++ List.replicate (n - (xlo as).length) vU
def x_ic (b : Int) (n : Nat) : xF := fun pc L S h => xon (pc + n) L (vI b :: S) h
def x_lc (b : Int) (n : Nat) : xF := fun pc L S h => xon (pc + n) L (vL b :: S) h
def x_il (a n : Nat) : xF := fun pc L S h => match L[a]? with
  | some (.inl x) => xon (pc + n) L (vI x :: S) h
  | _ => none
def x_ll (a n : Nat) : xF := fun pc L S h => match L[a]? with
  | some (.inr (.inl x)) => xon (pc + n) L (vL x :: S) h
  | _ => none
def x_al (a n : Nat) : xF := fun pc L S h => match L[a]? with
  | some (.inr (.inr (.inl r))) => xon (pc + n) L (.inr (.inr (.inl r)) :: S) h
  | some (.inr (.inr (.inr (.inl j)))) => xon (pc + n) L (vE j :: S) h
  | some (.inr (.inr (.inr (.inr (.inl j))))) => xon (pc + n) L (vS j :: S) h
  | _ => none
def x_is (a n : Nat) : xF := fun pc L S h => match S with
  | .inl x :: S => if a < L.length then xon (pc + n) (xst1 L a (vI x)) S h else none
  | _ => none
def x_ls (a n : Nat) : xF := fun pc L S h => match S with
  | .inr (.inl x) :: S => if a + 1 < L.length then xon (pc + n) (xst2 L a (vL x)) S h else none
  | _ => none
def x_as (a n : Nat) : xF := fun pc L S h => match S with
  | .inr (.inr (.inl r)) :: S => if a < L.length then xon (pc + n) (xst1 L a (.inr (.inr (.inl r)))) S h else none
  | _ => none
def x_inc (a : Nat) (b : Int) (n : Nat) : xF := fun pc L S h => match L[a]? with
  | some (.inl x) => xon (pc + n) (xst1 L a (vI (x + b))) S h
  | _ => none
def xband (x y : Int) : Int := (Int32.ofInt x &&& Int32.ofInt y).toInt
def xbor (x y : Int) : Int := (Int32.ofInt x ||| Int32.ofInt y).toInt
def xshl (x y : Int) : Int := (Int32.ofInt x <<< (Int32.ofInt y &&& 31)).toInt
def xshr (x y : Int) : Int := (Int32.ofInt x >>> (Int32.ofInt y &&& 31)).toInt
def xushr (x y : Int) : Int := (((Int32.ofInt x).toUInt32 >>> ((Int32.ofInt y).toUInt32 &&& Int32.toUInt32 31)).toInt32).toInt
def xi2c (x : Int) : Int := (((Int32.ofInt x).toUInt32 % 65536).toInt32).toInt
def x_bin (g : Int → Int → Int) : xF := fun pc L S h => match S with
  | .inl y :: .inl x :: S => xon (pc + 1) L (vI (g x y) :: S) h
  | _ => none
def x_div : xF := fun pc L S h => match S with
  | .inl y :: .inl x :: S => if xr x ∧ xr y ∧ y ≠ 0 ∧ y ≠ -1 then xon (pc + 1) L (vI (x.tdiv y) :: S) h else none
  | _ => none
def x_rem : xF := fun pc L S h => match S with
  | .inl y :: .inl x :: S => if xr x ∧ xr y ∧ y ≠ 0 ∧ y ≠ -1 then xon (pc + 1) L (vI (x.tmod y) :: S) h else none
  | _ => none
def x_neg : xF := fun pc L S h => match S with
  | .inl x :: S => xon (pc + 1) L (vI (-x) :: S) h
  | _ => none
def x_binl (g : Int → Int → Int) : xF := fun pc L S h => match S with
  | .inr (.inl y) :: .inr (.inl x) :: S => xon (pc + 1) L (vL (g x y) :: S) h
  | _ => none
def x_ldiv : xF := fun pc L S h => match S with
  | .inr (.inl y) :: .inr (.inl x) :: S => if xrl x ∧ xrl y ∧ y ≠ 0 ∧ x ≠ -9223372036854775808 then xon (pc + 1) L (vL (x.tdiv y) :: S) h else none
  | _ => none
def x_i2l : xF := fun pc L S h => match S with
  | .inl x :: S => if xr x then xon (pc + 1) L (vL x :: S) h else none
  | _ => none
def x_l2i : xF := fun pc L S h => match S with
  | .inr (.inl x) :: S => xon (pc + 1) L (vI x :: S) h
  | _ => none
def x_i2c : xF := fun pc L S h => match S with
  | .inl x :: S => xon (pc + 1) L (vI (xi2c x) :: S) h
  | _ => none
def xcmp (x y : Int) : Int := if x > y then 1 else if x = y then 0 else -1
def x_lcmp : xF := fun pc L S h => match S with
  | .inr (.inl y) :: .inr (.inl x) :: S => if xrl x ∧ xrl y then xon (pc + 1) L (vI (xcmp x y) :: S) h else none
  | _ => none
def x_dup : xF := fun pc L S h => match S with
  | v :: S => if xcat v = 1 then xon (pc + 1) L (v :: v :: S) h else none
  | _ => none
def x_dup2 : xF := fun pc L S h => match S with
  | v :: w :: S => if xcat v = 1 ∧ xcat w = 1 then xon (pc + 1) L (v :: w :: v :: w :: S) h else none
  | _ => none
def x_pop : xF := fun pc L S h => match S with
  | v :: S => if xcat v = 1 then xon (pc + 1) L S h else none
  | _ => none
/-- the six comparisons: 0 eq, 1 ne, 2 lt, 3 ge, 4 gt, 5 le -/
def xcond (a : Nat) (x y : Int) : Prop := match a with
  | 0 => x = y
  | 1 => x ≠ y
  | 2 => x < y
  | 3 => y ≤ x
  | 4 => y < x
  | _ => x ≤ y
def xcondB (a : Nat) (x y : Int) : Bool := match a with
  | 0 => decide (x = y)
  | 1 => decide (x ≠ y)
  | 2 => decide (x < y)
  | 3 => decide (y ≤ x)
  | 4 => decide (y < x)
  | _ => decide (x ≤ y)
def x_if (a : Nat) (t : Nat) : xF := fun pc L S h => match S with
  | .inl x :: S => if xr x then (if xcondB a x 0 = true then xon t L S h else xon (pc + 3) L S h) else none
  | _ => none
def x_cmp (a : Nat) (t : Nat) : xF := fun pc L S h => match S with
  | .inl y :: .inl x :: S => if xr x ∧ xr y then (if xcondB a x y = true then xon t L S h else xon (pc + 3) L S h) else none
  | _ => none
def x_goto (t : Nat) : xF := fun _ L S h => xon t L S h
def x_nnul (t : Nat) : xF := fun pc L S h => match S with
  | .inr (.inr (.inl none)) :: S => xon (pc + 3) L S h
  | .inr (.inr (.inl (some _))) :: S => xon t L S h
  | _ => none
def x_getf (ci k : Nat) : xF := fun pc L S h => match S with
  | .inr (.inr (.inl (some o))) :: S => match h.1 o with
    | some (.inl (cj, fs)) => if cj = ci then match fs[k]? with
      | some v => xon (pc + 3) L (v :: S) h
      | none => none
      else none
    | _ => none
  | _ => none
/-- does a value fit a field of a kind: 0 int, 1 boolean, 2 long, 3 a reference -/
def xfit (ty : Nat) (v : xV) : Bool := match ty, v with
  | 0, .inl _ => true
  | 1, .inl x => decide (x = 0 ∨ x = 1)
  | 2, .inr (.inl _) => true
  | 3, .inr (.inr (.inl _)) => true
  | 5, .inl x => decide (-128 ≤ x ∧ x ≤ 127)
  | 6, .inl x => decide (0 ≤ x ∧ x ≤ 65535)
  | _, _ => false
def x_putf (ci k ty : Nat) : xF := fun pc L S h => match S with
  | v :: .inr (.inr (.inl (some o))) :: S => match h.1 o with
    | some (.inl (cj, fs)) => if cj = ci ∧ k < fs.length ∧ xfit ty v = true then xon (pc + 3) L S (xset h o (c_O ci (fs.set k v))) else none
    | _ => none
  | _ => none
def x_ald (ka : Nat) (X : xX) : xF := fun pc L S h => match S with
  | .inl i :: .inr (.inr (.inl (some o))) :: S => match h.1 o with
    | some (.inr (.inl (k, n, f))) => if k = ka ∧ xin i n ∧ n < 2147483648 then xon (pc + 1) L ((if ka = 2 then vL (f i.toNat) else vI (f i.toNat)) :: S) h else none
    | some (.inr (.inr (n, f))) => if ka = 4 ∧ xin i n ∧ n < 2147483648 then xon (pc + 1) L (.inr (.inr (.inl (f i.toNat))) :: S) h else none
    | _ => none
  | .inl i :: .inr (.inr (.inr (.inl j))) :: S => if ((ka = 0 ∧ (X j).1 = 0) ∨ (ka = 1 ∧ (X j).1 = 3)) ∧ xin i (X j).2.1 ∧ (X j).2.1 < 2147483648 then xon (pc + 1) L (vI ((X j).2.2 i.toNat) :: S) h else none
  | _ => none
def x_ast (ka : Nat) : xF := fun pc L S h => match S with
  | .inl x :: .inl i :: .inr (.inr (.inl (some o))) :: S => match h.1 o with
    | some (.inr (.inl (k, n, f))) => if k = ka ∧ (ka = 0 ∨ (ka = 1 ∧ (x = 0 ∨ x = 1))) ∧ xin i n ∧ n < 2147483648 then xon (pc + 1) L S (xset h o (c_A k n (xup f i.toNat x))) else none
    | _ => none
  | .inr (.inl x) :: .inl i :: .inr (.inr (.inl (some o))) :: S => match h.1 o with
    | some (.inr (.inl (k, n, f))) => if k = ka ∧ ka = 2 ∧ xin i n ∧ n < 2147483648 then xon (pc + 1) L S (xset h o (c_A k n (xup f i.toNat x))) else none
    | _ => none
  | .inr (.inr (.inl (some v))) :: .inl i :: .inr (.inr (.inl (some o))) :: S => match h.1 o, h.1 v with
    | some (.inr (.inr (n, f))), some (.inl (cj, _)) => if ka = 4 ∧ cj = 8 ∧ xin i n ∧ n < 2147483648 then xon (pc + 1) L S (xset h o (c_R n (xup f i.toNat (some v)))) else none
    | _, _ => none
  | _ => none
def x_alen (X : xX) : xF := fun pc L S h => match S with
  | .inr (.inr (.inl (some o))) :: S => match h.1 o with
    | some (.inr (.inl (_, n, _))) => xon (pc + 1) L (vI n :: S) h
    | _ => none
  | .inr (.inr (.inr (.inl j))) :: S => if (X j).1 = 0 ∨ (X j).1 = 3 then xon (pc + 1) L (vI (X j).2.1 :: S) h else none
  | _ => none
/-- newarray: kind 0, 1, 2 -/
def x_newa (ka : Nat) : xF := fun pc L S h => match S with
  | .inl n :: S => if 0 ≤ n ∧ n ≤ 1000000 then xon (pc + 2) L (vR h.2.1 :: S) (xnew h (c_A ka n.toNat (fun _ => 0)) n.toNat) else none
  | _ => none
def x_anew : xF := fun pc L S h => match S with
  | .inl n :: S => if 0 ≤ n ∧ n ≤ 1000000 then xon (pc + 3) L (vR h.2.1 :: S) (xnew h (c_R n.toNat (fun _ => none)) n.toNat) else none
  | _ => none
def x_new (ci : Nat) (fs : List xV) : xF := fun pc L S h => xon (pc + 3) L (vR h.2.1 :: S) (xnew h (c_O ci fs) fs.length)
/-- a call: method y of n arguments, the receiver counted; the receiver's class (0 is none: static) -/
def xrecv (ci : Nat) (h : xH) (v : xV) : Bool := match v with
  | .inr (.inr (.inl (some o))) => match h.1 o with
    | some (.inl (cj, _)) => cj == ci
    | _ => false
  | _ => false
def xrk (kind ci : Nat) (h : xH) (as : List xV) : Bool := match kind, as with
  | 0, _ => true
  | 1, _ => true
  | 2, v :: _ => xrecv ci h v
  | 3, .inr (.inr (.inl (some _))) :: _ => true
  | 4, .inr (.inr (.inr (.inr (.inl j)))) :: _ => decide (j < 14)
  | _, _ => false
def x_call (y n : Nat) (ok : xH → List xV → Bool) : xF := fun pc _ S h => if n ≤ S.length ∧ xwd (S.drop n) ≤ 8 ∧ ok h (S.take n).reverse = true then some (.inr (.inl (y, (S.take n).reverse, pc + 3, S.drop n))) else none
def x_ret (ty : Nat) : xF := fun _ _ S _ => match S with
  | [] => if ty = 4 then some (.inr (.inr none)) else none
  | [v] => if ty ≠ 3 ∧ xfit ty v = true then some (.inr (.inr (some v))) else none
  | _ => none
def x_sw (lo : Int) (ts : List Nat) (dflt : Nat) : xF := fun _ L S h => match S with
  | .inl x :: S => if xr x then (if x < lo ∨ lo + ts.length ≤ x then xon dflt L S h else xon (ts.getD (x - lo).toNat dflt) L S h) else none
  | _ => none
def xlook (ps : List (Int × Nat)) (dflt : Nat) (x : Int) : Nat := match ps with
  | [] => dflt
  | q :: ps => if x = q.1 then q.2 else xlook ps dflt x
def x_lsw (ps : List (Int × Nat)) (dflt : Nat) : xF := fun _ L S h => match S with
  | .inl x :: S => if xr x then xon (xlook ps dflt x) L S h else none
  | _ => none
def xcpy (f g : Nat → Int) (sp dp n : Nat) : Nat → Int := fun k => if dp ≤ k ∧ k < dp + n then f (sp + (k - dp)) else g k
def x_copy : xF := fun pc L S h => match S with
  | .inl n :: .inl dp :: .inr (.inr (.inl (some b))) :: .inl sp :: .inr (.inr (.inl (some a))) :: S => match h.1 a, h.1 b with
    | some (.inr (.inl (0, na, f))), some (.inr (.inl (0, nb, g))) => if 0 ≤ n ∧ 0 ≤ dp ∧ 0 ≤ sp ∧ sp + n ≤ na ∧ dp + n ≤ nb ∧ na < 2147483648 ∧ nb < 2147483648 then xon (pc + 3) L S (xset h b (c_A 0 nb (xcpy f g sp.toNat dp.toNat n.toNat))) else none
    | _, _ => none
  | _ => none
/-- the clone of an outer array of ints -/
def x_clone (X : xX) : xF := fun pc L S h => match S with
  | .inr (.inr (.inr (.inl j))) :: S => if (X j).1 = 0 ∧ (X j).2.1 ≤ 1000000 then xon (pc + 3) L (vR h.2.1 :: S) (xnew h (c_A 0 (X j).2.1 (X j).2.2) (X j).2.1) else none
  | _ => none
/-- checkcast to int[] -/
def x_cast : xF := fun pc L S h => match S with
  | .inr (.inr (.inl (some o))) :: S => match h.1 o with
    | some (.inr (.inl (0, _, _))) => xon (pc + 3) L (vR o :: S) h
    | _ => none
  | _ => none
def xmin (x y : Int) : Int := if x ≤ y then x else y
def xmax (x y : Int) : Int := if y ≤ x then x else y
def xabs (x : Int) : Int := if 0 ≤ x then x else -x
def x_math (a : Nat) : xF := fun pc L S h => match a, S with
  | 0, .inl y :: .inl x :: S => if xr x ∧ xr y ∧ xwd S ≤ 8 then xon (pc + 3) L (vI (xmin x y) :: S) h else none
  | 1, .inl y :: .inl x :: S => if xr x ∧ xr y ∧ xwd S ≤ 8 then xon (pc + 3) L (vI (xmax x y) :: S) h else none
  | 2, .inl x :: S => if xr x ∧ xwd S ≤ 8 then xon (pc + 3) L (vI (xabs x) :: S) h else none
  | _, _ => none
def x_ref (v : xV) (n : Nat) : xF := fun pc L S h => xon (pc + n) L (v :: S) h
/-- Object's own constructor: nothing -/
def x_oin : xF := fun pc L S h => match S with
  | .inr (.inr (.inl (some _))) :: S => if xwd S ≤ 8 then xon (pc + 3) L S h else none
  | _ => none
/-- a String's field -/
def x_gets (k : Nat) : xF := fun pc L S h => match S with
  | .inr (.inr (.inr (.inr (.inl j)))) :: S => if j < 14 then xon (pc + 3) L ((if k = 0 then vE (j + 5) else vI 0) :: S) h else none
  | _ => none
/-- runs: fuel, room for frames, method, pc, locals, stack, heap -/
def xq (P : Nat → Nat → Option xF) (ml : Nat → Nat) : Nat → Nat → Nat → Nat → List xV → List xV → xH → Option (Option xV × xH)
  | 0, _, _, _, _, _, _ => none
  | f + 1, d, m, pc, L, S, h => match P m pc with
    | none => none
    | some F => match F pc L S h with
      | none => none
      | some (.inl (pc2, L2, S2, h2)) => xq P ml f d m pc2 L2 S2 h2
      | some (.inr (.inl (y, as, pc2, S2))) => match d with
        | 0 => none
        | d2 + 1 => match xq P ml f d2 y 0 (xent (ml y) as) [] h with
          | none => none
          | some (r, h2) => xq P ml f (d2 + 1) m pc2 L (r.toList ++ S2) h2
      | some (.inr (.inr r)) => some (r, h)
theorem xq_mono {P : Nat → Nat → Option xF} {ml : Nat → Nat} : ∀ (f d m pc : Nat) (L S : List xV) (h : xH) (z : Option xV × xH), xq P ml f d m pc L S h = some z → xq P ml (f + 1) d m pc L S h = some z := by
  intro f
  induction f with
  | zero => intro d m pc L S h z hz; simp [xq] at hz
  | succ f ih =>
    intro d m pc L S h z hz
    rw [xq] at hz ⊢
    cases hP : P m pc with
    | none => rw [hP] at hz; cases hz
    | some F =>
      rw [hP] at hz
      dsimp only at hz ⊢
      cases hF : F pc L S h with
      | none => rw [hF] at hz; cases hz
      | some q =>
        rw [hF] at hz
        match q, hF, hz with
        | .inl (pc2, L2, S2, h2), hF, hz => exact ih _ _ _ _ _ _ _ hz
        | .inr (.inr r), hF, hz => exact hz
        | .inr (.inl (y, as, pc2, S2)), hF, hz =>
          cases d with
          | zero => cases hz
          | succ d2 =>
            dsimp only at hz ⊢
            cases hc : xq P ml f d2 y 0 (xent (ml y) as) [] h with
            | none => rw [hc] at hz; cases hz
            | some w =>
              rw [hc] at hz
              rw [ih _ _ _ _ _ _ _ hc]
              obtain ⟨r, h2⟩ := w
              exact ih _ _ _ _ _ _ _ hz
theorem xq_le {P : Nat → Nat → Option xF} {ml : Nat → Nat} {f g d m pc : Nat} {L S : List xV} {h : xH} {z : Option xV × xH} (hfg : f ≤ g) (hz : xq P ml f d m pc L S h = some z) : xq P ml g d m pc L S h = some z := by
  induction g with
  | zero => have : f = 0 := by omega
            subst this; exact hz
  | succ g ih =>
    by_cases hg : f = g + 1
    · rw [← hg]; exact hz
    · exact xq_mono _ _ _ _ _ _ _ _ (ih (by omega))
end
section
/-! THE RELATION between the abstract machine and the kit's: values, cells, heap, locals -/
/-- the tables' numbers, the array classes, the first new address, the outer arrays' and texts' addresses, what the outer arrays hold -/
abbrev xG : Type := va_G × (Nat → ClassId) × Nat × (Nat → Option Nat) × (Nat → Nat) × xX
abbrev xG.D (G : xG) : va_G := G.1
abbrev xG.ca (G : xG) : Nat → ClassId := G.2.1
abbrev xG.N (G : xG) : Nat := G.2.2.1
abbrev xG.ea (G : xG) : Nat → Option Nat := G.2.2.2.1
abbrev xG.sa (G : xG) : Nat → Nat := G.2.2.2.2.1
abbrev xG.X (G : xG) : xX := G.2.2.2.2.2
def xc (G : xG) (v : xV) : Value := match v with
  | .inl x => .int (Int32.ofInt x)
  | .inr (.inl x) => .long (Int64.ofInt x)
  | .inr (.inr (.inl none)) => .null
  | .inr (.inr (.inl (some k))) => .ref (G.N + k)
  | .inr (.inr (.inr (.inl j))) => va_rf (G.ea j)
  | .inr (.inr (.inr (.inr (.inl j)))) => .ref (G.sa j)
  | .inr (.inr (.inr (.inr (.inr _)))) => .null
def xce (G : xG) (c : xC) : va_E := match c with
  | .inl (ci, fs) => .inr (ci, fs.map (xc G))
  | .inr (.inl (k, n, f)) => if k = 2 then .inl (G.ca 2, n, .inr (.inl (fun j => Int64.ofInt (f j)))) else .inl (G.ca k, n, .inl (fun j => Int32.ofInt (f j)))
  | .inr (.inr (n, f)) => .inl (G.ca 4, n, .inr (.inr (.inr (.inr (fun j => (f j).map (G.N + ·))))))
def xtys (G : xG) : List (ClassId × FieldType) := [(G.ca 0, .int), (G.ca 1, .boolean), (G.ca 2, .long), (G.ca 4, .object "FilmPrinter$State")]
def xA (G : xG) : Nat → Prop := fun q => G.N ≤ q
def xws (G : xG) (h : xH) : va_W := (List.range h.2.1).map (fun k => (G.N + k, xce G ((h.1 k).getD (c_A 0 0 (fun _ => 0)))))
def xRel (G : xG) (h : xH) (H : Heap) : Prop := (∀ k, (h.1 k).isSome = true ↔ k < h.2.1) ∧ va_P G.D x_cls (xws G h) H ∧ H.size = G.N + h.2.1
theorem xws_len (G : xG) (h : xH) : (xws G h).length = h.2.1 := by simp [xws]
theorem xws_get {G : xG} {h : xH} {k : Nat} {c : xC} (hk : k < h.2.1) (hc : h.1 k = some c) : (xws G h)[k]? = some (G.N + k, xce G c) := by
  simp [xws, hk, hc]
theorem xws_D (G : xG) (h : xH) : va_D (xA G) (xws G h) := by
  refine ⟨fun i j p q hp hq e => ?_, fun k q hq => ?_⟩
  · simp only [xws, List.getElem?_map, Option.map_eq_some_iff] at hp hq
    obtain ⟨a, ha, rfl⟩ := hp
    obtain ⟨b, hb, rfl⟩ := hq
    have h1 := List.getElem?_eq_some_iff.mp ha
    have h2 := List.getElem?_eq_some_iff.mp hb
    obtain ⟨q1, r1⟩ := h1
    obtain ⟨q2, r2⟩ := h2
    simp at r1 r2 e
    omega
  · simp only [xws, List.getElem?_map, Option.map_eq_some_iff] at hq
    obtain ⟨a, ha, rfl⟩ := hq
    simp [xA]
theorem xws_set {G : xG} {h : xH} {k : Nat} (c : xC) : (xws G h).set k (G.N + k, xce G c) = xws G (xset h k c) := by
  apply List.ext_getElem?
  intro i
  rw [List.getElem?_set]
  by_cases hi : k = i
  · subst hi
    simp only [if_true, xws_len]
    by_cases hl : k < h.2.1
    · simp [xws, xset, xup, hl]
    · simp [xws, xset, hl]
  · simp only [if_neg hi, xws, xset, xup, List.getElem?_map]
    by_cases hl : i < h.2.1
    · simp [hl, Ne.symm hi]
    · simp [hl]
theorem xws_new {G : xG} {h : xH} (c : xC) (sz : Nat) : xws G h ++ [(G.N + h.2.1, xce G c)] = xws G (xnew h c sz) := by
  simp only [xws, xnew, List.range_succ, List.map_append, List.map_cons, List.map_nil]
  congr 1
  · apply List.map_congr_left
    intro k hk
    have : k < h.2.1 := List.mem_range.mp hk
    have h2 : k ≠ h.2.1 := by omega
    simp [xup, h2]
  · simp [xup]
theorem xRel.lt {G : xG} {h : xH} {H : Heap} (R : xRel G h H) {k : Nat} {c : xC} (hc : h.1 k = some c) : k < h.2.1 := (R.1 k).mp (by rw [hc]; rfl)
theorem xRel.at {G : xG} {h : xH} {H : Heap} (R : xRel G h H) {k : Nat} {c : xC} (hc : h.1 k = some c) : (xws G h)[k]? = some (G.N + k, xce G c) := xws_get (R.lt hc) hc
theorem xset_some {h : xH} {k : Nat} {c : xC} (hk : k < h.2.1) (ha : ∀ k, (h.1 k).isSome = true ↔ k < h.2.1) : ∀ j, ((xset h k c).1 j).isSome = true ↔ j < (xset h k c).2.1 := by
  intro j
  by_cases hj : j = k
  · subst hj; simp [xset, xup, hk]
  · simp [xset, xup, hj, ha j]
theorem xnew_some {h : xH} {c : xC} {sz : Nat} (ha : ∀ k, (h.1 k).isSome = true ↔ k < h.2.1) : ∀ j, ((xnew h c sz).1 j).isSome = true ↔ j < (xnew h c sz).2.1 := by
  intro j
  by_cases hj : j = h.2.1
  · subst hj; simp [xnew, xup]
  · simp only [xnew, xup, if_neg hj]
    rw [ha j]
    omega
/-- the heap is no smaller than its cells ask -/
theorem xws_size {G : xG} {h : xH} {H : Heap} (hP : va_P G.D x_cls (xws G h) H) (ha : ∀ k, (h.1 k).isSome = true ↔ k < h.2.1) (hN : G.N ≤ H.size) : G.N + h.2.1 ≤ H.size := by
  by_cases hz : h.2.1 = 0
  · omega
  · have hk : h.2.1 - 1 < h.2.1 := by omega
    obtain ⟨c, hc⟩ := Option.isSome_iff_exists.mp ((ha _).mpr hk)
    have := (hP _ _ (xws_get (G := G) hk hc)).lt
    simp at this
    omega
-- locals
def xlv (G : xG) (L : List xV) : List (Nat × Value) := (List.range L.length).filterMap (fun i => match L[i]? with
  | some v => if v = vU then none else some (i, xc G v)
  | none => none)
theorem xlv_mem {G : xG} {L : List xV} {q : Nat × Value} : q ∈ xlv G L ↔ ∃ v, L[q.1]? = some v ∧ v ≠ vU ∧ q.2 = xc G v := by
  simp only [xlv, List.mem_filterMap, List.mem_range]
  constructor
  · rintro ⟨i, hi, h⟩
    have e : L[i]? = some L[i] := List.getElem?_eq_getElem hi
    rw [e] at h
    dsimp only at h
    by_cases hv : L[i] = vU
    · rw [if_pos hv] at h; cases h
    · rw [if_neg hv] at h
      cases h
      exact ⟨L[i], e, hv, rfl⟩
  · rintro ⟨v, h1, h2, h3⟩
    refine ⟨q.1, (List.getElem?_eq_some_iff.mp h1).1, ?_⟩
    rw [h1]
    dsimp only
    rw [if_neg h2, ← h3]
def xLR (G : xG) (ls : Array Slot) (nL : Nat) (L : List xV) : Prop := lv_has ls nL (xlv G L) ∧ L.length = nL
theorem xLR.at {G : xG} {ls : Array Slot} {nL : Nat} {L : List xV} (h : xLR G ls nL L) {i : Nat} {v : xV} (hi : L[i]? = some v) (hv : v ≠ vU) : ls[i]? = some (.val (xc G v)) := h.1.2.2 (i, xc G v) (xlv_mem.mpr ⟨v, hi, hv, rfl⟩)
theorem xc_cat {G : xG} {v : xV} (h : (xc G v).category = 2) : ∃ x, v = vL x := by
  match v with
  | .inl x => simp [xc, Value.category] at h
  | .inr (.inl x) => exact ⟨x, rfl⟩
  | .inr (.inr (.inl none)) => simp [xc, Value.category] at h
  | .inr (.inr (.inl (some k))) => simp [xc, Value.category] at h
  | .inr (.inr (.inr (.inl j))) =>
    cases e : G.ea j <;> simp [xc, va_rf, e, Value.category] at h
  | .inr (.inr (.inr (.inr (.inl j)))) => simp [xc, Value.category] at h
  | .inr (.inr (.inr (.inr (.inr _)))) => simp [xc, Value.category] at h
theorem xc_cat1 {G : xG} {v : xV} (h : xcat v = 1) : (xc G v).category = 1 := by
  rcases lv_cat (xc G v) with h1 | h1
  · exact h1
  · obtain ⟨x, rfl⟩ := xc_cat h1
    simp [xcat] at h
theorem xc_catE (G : xG) (v : xV) : (xc G v).category = xcat v := by
  match v with
  | .inl x => rfl
  | .inr (.inl x) => rfl
  | .inr (.inr (.inl none)) => rfl
  | .inr (.inr (.inl (some k))) => rfl
  | .inr (.inr (.inr (.inl j))) =>
    cases e : G.ea j <;> simp [xc, va_rf, e, Value.category, xcat]
  | .inr (.inr (.inr (.inr (.inl j)))) => rfl
  | .inr (.inr (.inr (.inr (.inr _)))) => rfl
theorem xc_wd (G : xG) (S : List xV) : ((S.map (xc G)).map fun v => v.category).sum = xwd S := by
  unfold xwd
  rw [List.map_map]
  congr 1
  apply List.map_congr_left
  intro v _
  exact xc_catE G v
theorem xkill_len (L : List xV) (i : Nat) : (xkill L i).length = L.length := by
  unfold xkill
  match i with
  | 0 => rfl
  | j + 1 =>
    dsimp only
    split <;> simp
theorem xkill_get {L : List xV} {i j : Nat} {w : xV} (h : (xkill L i)[j]? = some w) (hw : w ≠ vU) : L[j]? = some w ∧ ¬ (j + 1 = i ∧ ∃ x, w = vL x) := by
  unfold xkill at h
  match i with
  | 0 => exact ⟨h, fun q => by omega⟩
  | k + 1 =>
    dsimp only at h
    split at h
    · rename_i x hx
      rw [List.getElem?_set] at h
      by_cases hj : k = j
      · subst hj
        rw [if_pos rfl] at h
        split at h
        · cases h; exact absurd rfl hw
        · cases h
      · rw [if_neg hj] at h
        exact ⟨h, fun q => hj (by omega)⟩
    · rename_i hx
      refine ⟨h, fun q => ?_⟩
      obtain ⟨q1, x, rfl⟩ := q
      have : k = j := by omega
      subst this
      exact hx x h
theorem xLR_st1 {G : xG} {ls' : Array Slot} {nL : Nat} {L : List xV} {i : Nat} {v : xV} (hL : L.length = nL) (h : lv_has ls' nL ((i, xc G v) :: (xlv G L).filter (fun q => !(q.1 == i) && !(q.1 + 1 == i && q.2.category == 2)))) : xLR G ls' nL (xst1 L i v) := by
  refine ⟨⟨h.1, h.2.1, fun q hq => h.2.2 q ?_⟩, by simp [xst1, xkill_len, hL]⟩
  obtain ⟨w, h1, h2, h3⟩ := xlv_mem.mp hq
  unfold xst1 at h1
  rw [List.getElem?_set] at h1
  by_cases hi : i = q.1
  · rw [if_pos hi] at h1
    split at h1
    · cases h1
      exact List.mem_cons.mpr (Or.inl (by rw [hi, ← h3]))
    · cases h1
  · rw [if_neg hi] at h1
    obtain ⟨h4, h5⟩ := xkill_get h1 h2
    refine List.mem_cons.mpr (Or.inr (List.mem_filter.mpr ⟨xlv_mem.mpr ⟨w, h4, h2, h3⟩, ?_⟩))
    simp only [Bool.and_eq_true, Bool.not_eq_true', beq_eq_false_iff_ne, ne_eq, Bool.and_eq_false_iff]
    refine ⟨fun z => hi z.symm, ?_⟩
    by_cases hc : q.2.category = 2
    · left
      intro z
      rw [h3] at hc
      exact h5 ⟨z, xc_cat hc⟩
    · right
      exact hc
theorem xLR_st2 {G : xG} {ls' : Array Slot} {nL : Nat} {L : List xV} {i : Nat} {v : xV} (hL : L.length = nL) (h : lv_has ls' nL ((i, xc G v) :: (xlv G L).filter (fun q => !(q.1 == i) && (!(q.1 == i + 1) && !(q.1 + 1 == i && q.2.category == 2))))) : xLR G ls' nL (xst2 L i v) := by
  refine ⟨⟨h.1, h.2.1, fun q hq => h.2.2 q ?_⟩, by simp [xst2, xkill_len, hL]⟩
  obtain ⟨w, h1, h2, h3⟩ := xlv_mem.mp hq
  unfold xst2 at h1
  rw [List.getElem?_set] at h1
  by_cases hi1 : i + 1 = q.1
  · rw [if_pos hi1] at h1
    split at h1
    · cases h1
      exact absurd rfl h2
    · cases h1
  · rw [if_neg hi1, List.getElem?_set] at h1
    by_cases hi : i = q.1
    · rw [if_pos hi] at h1
      split at h1
      · cases h1
        exact List.mem_cons.mpr (Or.inl (by rw [hi, ← h3]))
      · cases h1
    · rw [if_neg hi] at h1
      obtain ⟨h4, h5⟩ := xkill_get h1 h2
      refine List.mem_cons.mpr (Or.inr (List.mem_filter.mpr ⟨xlv_mem.mpr ⟨w, h4, h2, h3⟩, ?_⟩))
      simp only [Bool.and_eq_true, Bool.not_eq_true', beq_eq_false_iff_ne, ne_eq, Bool.and_eq_false_iff]
      refine ⟨fun z => hi z.symm, fun z => hi1 z.symm, ?_⟩
      by_cases hc : q.2.category = 2
      · left
        intro z
        rw [h3] at hc
        exact h5 ⟨z, xc_cat hc⟩
      · right
        exact hc
end
