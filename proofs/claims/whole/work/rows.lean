section
-- ===== PART A: goes FIRST, ahead of the names: the tables' words, and 'selects' of the private methods out of them =====
/-- a private method of a class that the tables say can be made, by its rows of tables_1 -/
def lw_okq (q : MethodName × Nat) : Prop := (q.1.cls ≠ "java/lang/invoke/MethodHandle" ∧ q.1.cls ≠ "java/lang/invoke/VarHandle") ∧ Cond.instantiable q.1.cls q.2 ∈ tables_1 ∧ Cond.privateMethod q.1 ∈ tables_1 ∧ Cond.instanceMethod q.1 ∈ tables_1
theorem lw_p0 : lw_okq (⟨"FilmPrinter", "refuse", "(I)I"⟩, 12) := ⟨⟨by decide +kernel, by decide +kernel⟩, List.mem_of_getElem? (i := 21) (by decide +kernel), List.mem_of_getElem? (i := 440) (by decide +kernel), List.mem_of_getElem? (i := 441) (by decide +kernel)⟩
theorem lw_p1 : lw_okq (⟨"FilmPrinter", "accept", "(I)I"⟩, 12) := ⟨⟨by decide +kernel, by decide +kernel⟩, List.mem_of_getElem? (i := 21) (by decide +kernel), List.mem_of_getElem? (i := 462) (by decide +kernel), List.mem_of_getElem? (i := 463) (by decide +kernel)⟩
theorem lw_p2 : lw_okq (⟨"FilmPrinter", "hasShot", "(I)Z"⟩, 12) := ⟨⟨by decide +kernel, by decide +kernel⟩, List.mem_of_getElem? (i := 21) (by decide +kernel), List.mem_of_getElem? (i := 474) (by decide +kernel), List.mem_of_getElem? (i := 475) (by decide +kernel)⟩
theorem lw_p3 : lw_okq (⟨"FilmPrinter$Reader", "split", "(LFilmPrinter$Tape;)V"⟩, 7) := ⟨⟨by decide +kernel, by decide +kernel⟩, List.mem_of_getElem? (i := 176) (by decide +kernel), List.mem_of_getElem? (i := 507) (by decide +kernel), List.mem_of_getElem? (i := 508) (by decide +kernel)⟩
theorem lw_p4 : lw_okq (⟨"FilmPrinter$Reader", "addWord", "(LFilmPrinter$Tape;II)V"⟩, 7) := ⟨⟨by decide +kernel, by decide +kernel⟩, List.mem_of_getElem? (i := 176) (by decide +kernel), List.mem_of_getElem? (i := 514) (by decide +kernel), List.mem_of_getElem? (i := 515) (by decide +kernel)⟩
theorem lw_p5 : lw_okq (⟨"FilmPrinter$Reader", "addToken", "(III)V"⟩, 7) := ⟨⟨by decide +kernel, by decide +kernel⟩, List.mem_of_getElem? (i := 176) (by decide +kernel), List.mem_of_getElem? (i := 579) (by decide +kernel), List.mem_of_getElem? (i := 580) (by decide +kernel)⟩
theorem lw_p6 : lw_okq (⟨"FilmPrinter$Reader", "readClause", "()Z"⟩, 7) := ⟨⟨by decide +kernel, by decide +kernel⟩, List.mem_of_getElem? (i := 176) (by decide +kernel), List.mem_of_getElem? (i := 605) (by decide +kernel), List.mem_of_getElem? (i := 606) (by decide +kernel)⟩
theorem lw_p7 : lw_okq (⟨"FilmPrinter$Reader", "pass", "()V"⟩, 7) := ⟨⟨by decide +kernel, by decide +kernel⟩, List.mem_of_getElem? (i := 176) (by decide +kernel), List.mem_of_getElem? (i := 609) (by decide +kernel), List.mem_of_getElem? (i := 610) (by decide +kernel)⟩
theorem lw_p8 : lw_okq (⟨"FilmPrinter$Reader", "readSum", "(I)Z"⟩, 7) := ⟨⟨by decide +kernel, by decide +kernel⟩, List.mem_of_getElem? (i := 176) (by decide +kernel), List.mem_of_getElem? (i := 613) (by decide +kernel), List.mem_of_getElem? (i := 614) (by decide +kernel)⟩
theorem lw_p9 : lw_okq (⟨"FilmPrinter$Reader", "readTerm", "(I)Z"⟩, 7) := ⟨⟨by decide +kernel, by decide +kernel⟩, List.mem_of_getElem? (i := 176) (by decide +kernel), List.mem_of_getElem? (i := 617) (by decide +kernel), List.mem_of_getElem? (i := 618) (by decide +kernel)⟩
theorem lw_p10 : lw_okq (⟨"FilmPrinter$Reader", "readPart", "(I)Z"⟩, 7) := ⟨⟨by decide +kernel, by decide +kernel⟩, List.mem_of_getElem? (i := 176) (by decide +kernel), List.mem_of_getElem? (i := 621) (by decide +kernel), List.mem_of_getElem? (i := 622) (by decide +kernel)⟩
theorem lw_p11 : lw_okq (⟨"FilmPrinter$Reader", "readTest", "(I)Z"⟩, 7) := ⟨⟨by decide +kernel, by decide +kernel⟩, List.mem_of_getElem? (i := 176) (by decide +kernel), List.mem_of_getElem? (i := 630) (by decide +kernel), List.mem_of_getElem? (i := 631) (by decide +kernel)⟩
theorem lw_p12 : lw_okq (⟨"FilmPrinter$Reader", "readBoth", "(I)Z"⟩, 7) := ⟨⟨by decide +kernel, by decide +kernel⟩, List.mem_of_getElem? (i := 176) (by decide +kernel), List.mem_of_getElem? (i := 634) (by decide +kernel), List.mem_of_getElem? (i := 635) (by decide +kernel)⟩
theorem lw_p13 : lw_okq (⟨"FilmPrinter$Reader", "readPlain", "(I)Z"⟩, 7) := ⟨⟨by decide +kernel, by decide +kernel⟩, List.mem_of_getElem? (i := 176) (by decide +kernel), List.mem_of_getElem? (i := 638) (by decide +kernel), List.mem_of_getElem? (i := 639) (by decide +kernel)⟩
theorem lw_p14 : lw_okq (⟨"FilmPrinter$Reader", "readComparison", "(I)Z"⟩, 7) := ⟨⟨by decide +kernel, by decide +kernel⟩, List.mem_of_getElem? (i := 176) (by decide +kernel), List.mem_of_getElem? (i := 642) (by decide +kernel), List.mem_of_getElem? (i := 643) (by decide +kernel)⟩
theorem lw_p15 : lw_okq (⟨"FilmPrinter$Asker", "holds", "(LFilmPrinter$Law;II)Z"⟩, 6) := ⟨⟨by decide +kernel, by decide +kernel⟩, List.mem_of_getElem? (i := 207) (by decide +kernel), List.mem_of_getElem? (i := 685) (by decide +kernel), List.mem_of_getElem? (i := 686) (by decide +kernel)⟩
def lw_privs_1 : List (MethodName × Nat) := [(⟨"FilmPrinter", "refuse", "(I)I"⟩, 12), (⟨"FilmPrinter", "accept", "(I)I"⟩, 12), (⟨"FilmPrinter", "hasShot", "(I)Z"⟩, 12), (⟨"FilmPrinter$Reader", "split", "(LFilmPrinter$Tape;)V"⟩, 7), (⟨"FilmPrinter$Reader", "addWord", "(LFilmPrinter$Tape;II)V"⟩, 7), (⟨"FilmPrinter$Reader", "addToken", "(III)V"⟩, 7), (⟨"FilmPrinter$Reader", "readClause", "()Z"⟩, 7), (⟨"FilmPrinter$Reader", "pass", "()V"⟩, 7), (⟨"FilmPrinter$Reader", "readSum", "(I)Z"⟩, 7), (⟨"FilmPrinter$Reader", "readTerm", "(I)Z"⟩, 7), (⟨"FilmPrinter$Reader", "readPart", "(I)Z"⟩, 7), (⟨"FilmPrinter$Reader", "readTest", "(I)Z"⟩, 7), (⟨"FilmPrinter$Reader", "readBoth", "(I)Z"⟩, 7), (⟨"FilmPrinter$Reader", "readPlain", "(I)Z"⟩, 7), (⟨"FilmPrinter$Reader", "readComparison", "(I)Z"⟩, 7), (⟨"FilmPrinter$Asker", "holds", "(LFilmPrinter$Law;II)Z"⟩, 6)]
theorem lw_r1 : ∀ q ∈ lw_privs_1, lw_okq q := List.forall_mem_cons.mpr ⟨lw_p0, List.forall_mem_cons.mpr ⟨lw_p1, List.forall_mem_cons.mpr ⟨lw_p2, List.forall_mem_cons.mpr ⟨lw_p3, List.forall_mem_cons.mpr ⟨lw_p4, List.forall_mem_cons.mpr ⟨lw_p5, List.forall_mem_cons.mpr ⟨lw_p6, List.forall_mem_cons.mpr ⟨lw_p7, List.forall_mem_cons.mpr ⟨lw_p8, List.forall_mem_cons.mpr ⟨lw_p9, List.forall_mem_cons.mpr ⟨lw_p10, List.forall_mem_cons.mpr ⟨lw_p11, List.forall_mem_cons.mpr ⟨lw_p12, List.forall_mem_cons.mpr ⟨lw_p13, List.forall_mem_cons.mpr ⟨lw_p14, List.forall_mem_cons.mpr ⟨lw_p15, fun _ h => absurd h List.not_mem_nil⟩⟩⟩⟩⟩⟩⟩⟩⟩⟩⟩⟩⟩⟩⟩⟩
theorem lw_p16 : lw_okq (⟨"FilmPrinter$Asker", "run", "(II)Z"⟩, 6) := ⟨⟨by decide +kernel, by decide +kernel⟩, List.mem_of_getElem? (i := 207) (by decide +kernel), List.mem_of_getElem? (i := 689) (by decide +kernel), List.mem_of_getElem? (i := 690) (by decide +kernel)⟩
theorem lw_p17 : lw_okq (⟨"FilmPrinter$Asker", "push", "(I)Z"⟩, 6) := ⟨⟨by decide +kernel, by decide +kernel⟩, List.mem_of_getElem? (i := 207) (by decide +kernel), List.mem_of_getElem? (i := 693) (by decide +kernel), List.mem_of_getElem? (i := 694) (by decide +kernel)⟩
theorem lw_p18 : lw_okq (⟨"FilmPrinter$Asker", "reckon", "(IJJ)Z"⟩, 6) := ⟨⟨by decide +kernel, by decide +kernel⟩, List.mem_of_getElem? (i := 207) (by decide +kernel), List.mem_of_getElem? (i := 697) (by decide +kernel), List.mem_of_getElem? (i := 698) (by decide +kernel)⟩
theorem lw_p19 : lw_okq (⟨"FilmPrinter$Edition", "addPlace", "(II)V"⟩, 6) := ⟨⟨by decide +kernel, by decide +kernel⟩, List.mem_of_getElem? (i := 238) (by decide +kernel), List.mem_of_getElem? (i := 713) (by decide +kernel), List.mem_of_getElem? (i := 714) (by decide +kernel)⟩
theorem lw_p20 : lw_okq (⟨"FilmPrinter", "hasPlace", "(II)Z"⟩, 12) := ⟨⟨by decide +kernel, by decide +kernel⟩, List.mem_of_getElem? (i := 21) (by decide +kernel), List.mem_of_getElem? (i := 722) (by decide +kernel), List.mem_of_getElem? (i := 723) (by decide +kernel)⟩
theorem lw_p21 : lw_okq (⟨"FilmPrinter", "isExplained", "(I)Z"⟩, 12) := ⟨⟨by decide +kernel, by decide +kernel⟩, List.mem_of_getElem? (i := 21) (by decide +kernel), List.mem_of_getElem? (i := 759) (by decide +kernel), List.mem_of_getElem? (i := 760) (by decide +kernel)⟩
theorem lw_p22 : lw_okq (⟨"FilmPrinter$Explainer", "countApart", "(LFilmPrinter$State;LFilmPrinter$Edition;)V"⟩, 6) := ⟨⟨by decide +kernel, by decide +kernel⟩, List.mem_of_getElem? (i := 274) (by decide +kernel), List.mem_of_getElem? (i := 767) (by decide +kernel), List.mem_of_getElem? (i := 768) (by decide +kernel)⟩
theorem lw_p23 : lw_okq (⟨"FilmPrinter$Explainer", "bestFail", "(LFilmPrinter$Edition;III)I"⟩, 6) := ⟨⟨by decide +kernel, by decide +kernel⟩, List.mem_of_getElem? (i := 274) (by decide +kernel), List.mem_of_getElem? (i := 777) (by decide +kernel), List.mem_of_getElem? (i := 778) (by decide +kernel)⟩
theorem lw_p24 : lw_okq (⟨"FilmPrinter$Explainer", "leastBy", "(LFilmPrinter$Edition;IIII)I"⟩, 6) := ⟨⟨by decide +kernel, by decide +kernel⟩, List.mem_of_getElem? (i := 274) (by decide +kernel), List.mem_of_getElem? (i := 781) (by decide +kernel), List.mem_of_getElem? (i := 782) (by decide +kernel)⟩
theorem lw_p25 : lw_okq (⟨"FilmPrinter$Explainer", "follow", "(LFilmPrinter$Edition;I)V"⟩, 6) := ⟨⟨by decide +kernel, by decide +kernel⟩, List.mem_of_getElem? (i := 274) (by decide +kernel), List.mem_of_getElem? (i := 786) (by decide +kernel), List.mem_of_getElem? (i := 787) (by decide +kernel)⟩
theorem lw_p26 : lw_okq (⟨"FilmPrinter$Matcher", "weigh", "(LFilmPrinter$State;III)V"⟩, 6) := ⟨⟨by decide +kernel, by decide +kernel⟩, List.mem_of_getElem? (i := 330) (by decide +kernel), List.mem_of_getElem? (i := 844) (by decide +kernel), List.mem_of_getElem? (i := 845) (by decide +kernel)⟩
theorem lw_p27 : lw_okq (⟨"FilmPrinter$Matcher", "choose", "(LFilmPrinter$State;II)V"⟩, 6) := ⟨⟨by decide +kernel, by decide +kernel⟩, List.mem_of_getElem? (i := 330) (by decide +kernel), List.mem_of_getElem? (i := 850) (by decide +kernel), List.mem_of_getElem? (i := 851) (by decide +kernel)⟩
theorem lw_p28 : lw_okq (⟨"FilmPrinter", "makeOne", "()V"⟩, 12) := ⟨⟨by decide +kernel, by decide +kernel⟩, List.mem_of_getElem? (i := 21) (by decide +kernel), List.mem_of_getElem? (i := 862) (by decide +kernel), List.mem_of_getElem? (i := 863) (by decide +kernel)⟩
theorem lw_p29 : lw_okq (⟨"FilmPrinter$Maker", "follow", "(LFilmPrinter$State;LFilmPrinter$Matcher;I)V"⟩, 8) := ⟨⟨by decide +kernel, by decide +kernel⟩, List.mem_of_getElem? (i := 359) (by decide +kernel), List.mem_of_getElem? (i := 877) (by decide +kernel), List.mem_of_getElem? (i := 878) (by decide +kernel)⟩
theorem lw_p30 : lw_okq (⟨"FilmPrinter$Maker", "better", "(LFilmPrinter$Matcher;III)I"⟩, 8) := ⟨⟨by decide +kernel, by decide +kernel⟩, List.mem_of_getElem? (i := 359) (by decide +kernel), List.mem_of_getElem? (i := 881) (by decide +kernel), List.mem_of_getElem? (i := 882) (by decide +kernel)⟩
theorem lw_p31 : lw_okq (⟨"FilmPrinter$Maker", "countMissing", "(LFilmPrinter$State;)V"⟩, 8) := ⟨⟨by decide +kernel, by decide +kernel⟩, List.mem_of_getElem? (i := 359) (by decide +kernel), List.mem_of_getElem? (i := 885) (by decide +kernel), List.mem_of_getElem? (i := 886) (by decide +kernel)⟩
def lw_privs_2 : List (MethodName × Nat) := [(⟨"FilmPrinter$Asker", "run", "(II)Z"⟩, 6), (⟨"FilmPrinter$Asker", "push", "(I)Z"⟩, 6), (⟨"FilmPrinter$Asker", "reckon", "(IJJ)Z"⟩, 6), (⟨"FilmPrinter$Edition", "addPlace", "(II)V"⟩, 6), (⟨"FilmPrinter", "hasPlace", "(II)Z"⟩, 12), (⟨"FilmPrinter", "isExplained", "(I)Z"⟩, 12), (⟨"FilmPrinter$Explainer", "countApart", "(LFilmPrinter$State;LFilmPrinter$Edition;)V"⟩, 6), (⟨"FilmPrinter$Explainer", "bestFail", "(LFilmPrinter$Edition;III)I"⟩, 6), (⟨"FilmPrinter$Explainer", "leastBy", "(LFilmPrinter$Edition;IIII)I"⟩, 6), (⟨"FilmPrinter$Explainer", "follow", "(LFilmPrinter$Edition;I)V"⟩, 6), (⟨"FilmPrinter$Matcher", "weigh", "(LFilmPrinter$State;III)V"⟩, 6), (⟨"FilmPrinter$Matcher", "choose", "(LFilmPrinter$State;II)V"⟩, 6), (⟨"FilmPrinter", "makeOne", "()V"⟩, 12), (⟨"FilmPrinter$Maker", "follow", "(LFilmPrinter$State;LFilmPrinter$Matcher;I)V"⟩, 8), (⟨"FilmPrinter$Maker", "better", "(LFilmPrinter$Matcher;III)I"⟩, 8), (⟨"FilmPrinter$Maker", "countMissing", "(LFilmPrinter$State;)V"⟩, 8)]
theorem lw_r2 : ∀ q ∈ lw_privs_2, lw_okq q := List.forall_mem_cons.mpr ⟨lw_p16, List.forall_mem_cons.mpr ⟨lw_p17, List.forall_mem_cons.mpr ⟨lw_p18, List.forall_mem_cons.mpr ⟨lw_p19, List.forall_mem_cons.mpr ⟨lw_p20, List.forall_mem_cons.mpr ⟨lw_p21, List.forall_mem_cons.mpr ⟨lw_p22, List.forall_mem_cons.mpr ⟨lw_p23, List.forall_mem_cons.mpr ⟨lw_p24, List.forall_mem_cons.mpr ⟨lw_p25, List.forall_mem_cons.mpr ⟨lw_p26, List.forall_mem_cons.mpr ⟨lw_p27, List.forall_mem_cons.mpr ⟨lw_p28, List.forall_mem_cons.mpr ⟨lw_p29, List.forall_mem_cons.mpr ⟨lw_p30, List.forall_mem_cons.mpr ⟨lw_p31, fun _ h => absurd h List.not_mem_nil⟩⟩⟩⟩⟩⟩⟩⟩⟩⟩⟩⟩⟩⟩⟩⟩
theorem lw_p32 : lw_okq (⟨"FilmPrinter$Maker", "countOlder", "(LFilmPrinter$State;LFilmPrinter$Matcher;)V"⟩, 8) := ⟨⟨by decide +kernel, by decide +kernel⟩, List.mem_of_getElem? (i := 359) (by decide +kernel), List.mem_of_getElem? (i := 890) (by decide +kernel), List.mem_of_getElem? (i := 891) (by decide +kernel)⟩
theorem lw_p33 : lw_okq (⟨"FilmPrinterModel", "tell", "(I)I"⟩, 46) := ⟨⟨by decide +kernel, by decide +kernel⟩, List.mem_of_getElem? (i := 940) (by decide +kernel), List.mem_of_getElem? (i := 1094) (by decide +kernel), List.mem_of_getElem? (i := 1095) (by decide +kernel)⟩
theorem lw_p34 : lw_okq (⟨"FilmPrinterModel", "forget", "()V"⟩, 46) := ⟨⟨by decide +kernel, by decide +kernel⟩, List.mem_of_getElem? (i := 940) (by decide +kernel), List.mem_of_getElem? (i := 1102) (by decide +kernel), List.mem_of_getElem? (i := 1103) (by decide +kernel)⟩
theorem lw_p35 : lw_okq (⟨"FilmPrinterModel", "isShot", "(I)Z"⟩, 46) := ⟨⟨by decide +kernel, by decide +kernel⟩, List.mem_of_getElem? (i := 940) (by decide +kernel), List.mem_of_getElem? (i := 1123) (by decide +kernel), List.mem_of_getElem? (i := 1124) (by decide +kernel)⟩
theorem lw_p36 : lw_okq (⟨"FilmPrinterModel", "firstOf", "(I)I"⟩, 46) := ⟨⟨by decide +kernel, by decide +kernel⟩, List.mem_of_getElem? (i := 940) (by decide +kernel), List.mem_of_getElem? (i := 1128) (by decide +kernel), List.mem_of_getElem? (i := 1129) (by decide +kernel)⟩
theorem lw_p37 : lw_okq (⟨"FilmPrinterModel", "four", "(I)V"⟩, 46) := ⟨⟨by decide +kernel, by decide +kernel⟩, List.mem_of_getElem? (i := 940) (by decide +kernel), List.mem_of_getElem? (i := 1146) (by decide +kernel), List.mem_of_getElem? (i := 1147) (by decide +kernel)⟩
theorem lw_p38 : lw_okq (⟨"FilmPrinterModel", "begin", "()V"⟩, 46) := ⟨⟨by decide +kernel, by decide +kernel⟩, List.mem_of_getElem? (i := 940) (by decide +kernel), List.mem_of_getElem? (i := 1162) (by decide +kernel), List.mem_of_getElem? (i := 1163) (by decide +kernel)⟩
theorem lw_p39 : lw_okq (⟨"FilmPrinterModel", "next", "()V"⟩, 46) := ⟨⟨by decide +kernel, by decide +kernel⟩, List.mem_of_getElem? (i := 940) (by decide +kernel), List.mem_of_getElem? (i := 1166) (by decide +kernel), List.mem_of_getElem? (i := 1167) (by decide +kernel)⟩
theorem lw_p40 : lw_okq (⟨"FilmPrinterModel", "readClause", "()V"⟩, 46) := ⟨⟨by decide +kernel, by decide +kernel⟩, List.mem_of_getElem? (i := 940) (by decide +kernel), List.mem_of_getElem? (i := 1182) (by decide +kernel), List.mem_of_getElem? (i := 1183) (by decide +kernel)⟩
theorem lw_p41 : lw_okq (⟨"FilmPrinterModel", "headAt", "()I"⟩, 46) := ⟨⟨by decide +kernel, by decide +kernel⟩, List.mem_of_getElem? (i := 940) (by decide +kernel), List.mem_of_getElem? (i := 1186) (by decide +kernel), List.mem_of_getElem? (i := 1187) (by decide +kernel)⟩
theorem lw_p42 : lw_okq (⟨"FilmPrinterModel", "isWord", "(J)Z"⟩, 46) := ⟨⟨by decide +kernel, by decide +kernel⟩, List.mem_of_getElem? (i := 940) (by decide +kernel), List.mem_of_getElem? (i := 1191) (by decide +kernel), List.mem_of_getElem? (i := 1192) (by decide +kernel)⟩
theorem lw_p43 : lw_okq (⟨"FilmPrinterModel", "must", "(Z)V"⟩, 46) := ⟨⟨by decide +kernel, by decide +kernel⟩, List.mem_of_getElem? (i := 940) (by decide +kernel), List.mem_of_getElem? (i := 1197) (by decide +kernel), List.mem_of_getElem? (i := 1198) (by decide +kernel)⟩
theorem lw_p44 : lw_okq (⟨"FilmPrinterModel", "readExpression", "(Z)V"⟩, 46) := ⟨⟨by decide +kernel, by decide +kernel⟩, List.mem_of_getElem? (i := 940) (by decide +kernel), List.mem_of_getElem? (i := 1201) (by decide +kernel), List.mem_of_getElem? (i := 1202) (by decide +kernel)⟩
theorem lw_p45 : lw_okq (⟨"FilmPrinterModel", "readPlain", "()I"⟩, 46) := ⟨⟨by decide +kernel, by decide +kernel⟩, List.mem_of_getElem? (i := 940) (by decide +kernel), List.mem_of_getElem? (i := 1205) (by decide +kernel), List.mem_of_getElem? (i := 1206) (by decide +kernel)⟩
theorem lw_p46 : lw_okq (⟨"FilmPrinterModel", "push", "(II)V"⟩, 46) := ⟨⟨by decide +kernel, by decide +kernel⟩, List.mem_of_getElem? (i := 940) (by decide +kernel), List.mem_of_getElem? (i := 1210) (by decide +kernel), List.mem_of_getElem? (i := 1211) (by decide +kernel)⟩
theorem lw_p47 : lw_okq (⟨"FilmPrinterModel", "isSign", "(I)Z"⟩, 46) := ⟨⟨by decide +kernel, by decide +kernel⟩, List.mem_of_getElem? (i := 940) (by decide +kernel), List.mem_of_getElem? (i := 1214) (by decide +kernel), List.mem_of_getElem? (i := 1215) (by decide +kernel)⟩
def lw_privs_3 : List (MethodName × Nat) := [(⟨"FilmPrinter$Maker", "countOlder", "(LFilmPrinter$State;LFilmPrinter$Matcher;)V"⟩, 8), (⟨"FilmPrinterModel", "tell", "(I)I"⟩, 46), (⟨"FilmPrinterModel", "forget", "()V"⟩, 46), (⟨"FilmPrinterModel", "isShot", "(I)Z"⟩, 46), (⟨"FilmPrinterModel", "firstOf", "(I)I"⟩, 46), (⟨"FilmPrinterModel", "four", "(I)V"⟩, 46), (⟨"FilmPrinterModel", "begin", "()V"⟩, 46), (⟨"FilmPrinterModel", "next", "()V"⟩, 46), (⟨"FilmPrinterModel", "readClause", "()V"⟩, 46), (⟨"FilmPrinterModel", "headAt", "()I"⟩, 46), (⟨"FilmPrinterModel", "isWord", "(J)Z"⟩, 46), (⟨"FilmPrinterModel", "must", "(Z)V"⟩, 46), (⟨"FilmPrinterModel", "readExpression", "(Z)V"⟩, 46), (⟨"FilmPrinterModel", "readPlain", "()I"⟩, 46), (⟨"FilmPrinterModel", "push", "(II)V"⟩, 46), (⟨"FilmPrinterModel", "isSign", "(I)Z"⟩, 46)]
theorem lw_r3 : ∀ q ∈ lw_privs_3, lw_okq q := List.forall_mem_cons.mpr ⟨lw_p32, List.forall_mem_cons.mpr ⟨lw_p33, List.forall_mem_cons.mpr ⟨lw_p34, List.forall_mem_cons.mpr ⟨lw_p35, List.forall_mem_cons.mpr ⟨lw_p36, List.forall_mem_cons.mpr ⟨lw_p37, List.forall_mem_cons.mpr ⟨lw_p38, List.forall_mem_cons.mpr ⟨lw_p39, List.forall_mem_cons.mpr ⟨lw_p40, List.forall_mem_cons.mpr ⟨lw_p41, List.forall_mem_cons.mpr ⟨lw_p42, List.forall_mem_cons.mpr ⟨lw_p43, List.forall_mem_cons.mpr ⟨lw_p44, List.forall_mem_cons.mpr ⟨lw_p45, List.forall_mem_cons.mpr ⟨lw_p46, List.forall_mem_cons.mpr ⟨lw_p47, fun _ h => absurd h List.not_mem_nil⟩⟩⟩⟩⟩⟩⟩⟩⟩⟩⟩⟩⟩⟩⟩⟩
theorem lw_p48 : lw_okq (⟨"FilmPrinterModel", "openBracket", "(I)V"⟩, 46) := ⟨⟨by decide +kernel, by decide +kernel⟩, List.mem_of_getElem? (i := 940) (by decide +kernel), List.mem_of_getElem? (i := 1218) (by decide +kernel), List.mem_of_getElem? (i := 1219) (by decide +kernel)⟩
theorem lw_p49 : lw_okq (⟨"FilmPrinterModel", "readPart", "()I"⟩, 46) := ⟨⟨by decide +kernel, by decide +kernel⟩, List.mem_of_getElem? (i := 940) (by decide +kernel), List.mem_of_getElem? (i := 1222) (by decide +kernel), List.mem_of_getElem? (i := 1223) (by decide +kernel)⟩
theorem lw_p50 : lw_okq (⟨"FilmPrinterModel", "partAt", "()I"⟩, 46) := ⟨⟨by decide +kernel, by decide +kernel⟩, List.mem_of_getElem? (i := 940) (by decide +kernel), List.mem_of_getElem? (i := 1226) (by decide +kernel), List.mem_of_getElem? (i := 1227) (by decide +kernel)⟩
theorem lw_p51 : lw_okq (⟨"FilmPrinterModel", "leaf", "(ZII)V"⟩, 46) := ⟨⟨by decide +kernel, by decide +kernel⟩, List.mem_of_getElem? (i := 940) (by decide +kernel), List.mem_of_getElem? (i := 1238) (by decide +kernel), List.mem_of_getElem? (i := 1239) (by decide +kernel)⟩
theorem lw_p52 : lw_okq (⟨"FilmPrinterModel", "emit", "(II)V"⟩, 46) := ⟨⟨by decide +kernel, by decide +kernel⟩, List.mem_of_getElem? (i := 940) (by decide +kernel), List.mem_of_getElem? (i := 1242) (by decide +kernel), List.mem_of_getElem? (i := 1243) (by decide +kernel)⟩
theorem lw_p53 : lw_okq (⟨"FilmPrinterModel", "behindSum", "(Z)I"⟩, 46) := ⟨⟨by decide +kernel, by decide +kernel⟩, List.mem_of_getElem? (i := 940) (by decide +kernel), List.mem_of_getElem? (i := 1246) (by decide +kernel), List.mem_of_getElem? (i := 1247) (by decide +kernel)⟩
theorem lw_p54 : lw_okq (⟨"FilmPrinterModel", "settle", "(I)V"⟩, 46) := ⟨⟨by decide +kernel, by decide +kernel⟩, List.mem_of_getElem? (i := 940) (by decide +kernel), List.mem_of_getElem? (i := 1253) (by decide +kernel), List.mem_of_getElem? (i := 1254) (by decide +kernel)⟩
theorem lw_p55 : lw_okq (⟨"FilmPrinterModel", "inner", "()I"⟩, 46) := ⟨⟨by decide +kernel, by decide +kernel⟩, List.mem_of_getElem? (i := 940) (by decide +kernel), List.mem_of_getElem? (i := 1257) (by decide +kernel), List.mem_of_getElem? (i := 1258) (by decide +kernel)⟩
theorem lw_p56 : lw_okq (⟨"FilmPrinterModel", "isCompared", "()Z"⟩, 46) := ⟨⟨by decide +kernel, by decide +kernel⟩, List.mem_of_getElem? (i := 940) (by decide +kernel), List.mem_of_getElem? (i := 1261) (by decide +kernel), List.mem_of_getElem? (i := 1262) (by decide +kernel)⟩
theorem lw_p57 : lw_okq (⟨"FilmPrinterModel", "behindTest", "()I"⟩, 46) := ⟨⟨by decide +kernel, by decide +kernel⟩, List.mem_of_getElem? (i := 940) (by decide +kernel), List.mem_of_getElem? (i := 1269) (by decide +kernel), List.mem_of_getElem? (i := 1270) (by decide +kernel)⟩
theorem lw_p58 : lw_okq (⟨"FilmPrinterModel", "lightOf", "(II)I"⟩, 46) := ⟨⟨by decide +kernel, by decide +kernel⟩, List.mem_of_getElem? (i := 940) (by decide +kernel), List.mem_of_getElem? (i := 1284) (by decide +kernel), List.mem_of_getElem? (i := 1285) (by decide +kernel)⟩
theorem lw_p59 : lw_okq (⟨"FilmPrinterModel", "ask", "(II)V"⟩, 46) := ⟨⟨by decide +kernel, by decide +kernel⟩, List.mem_of_getElem? (i := 940) (by decide +kernel), List.mem_of_getElem? (i := 1288) (by decide +kernel), List.mem_of_getElem? (i := 1289) (by decide +kernel)⟩
theorem lw_p60 : lw_okq (⟨"FilmPrinterModel", "find", "(IIII)I"⟩, 46) := ⟨⟨by decide +kernel, by decide +kernel⟩, List.mem_of_getElem? (i := 940) (by decide +kernel), List.mem_of_getElem? (i := 1292) (by decide +kernel), List.mem_of_getElem? (i := 1293) (by decide +kernel)⟩
theorem lw_p61 : lw_okq (⟨"FilmPrinterModel", "isSo", "(I)Z"⟩, 46) := ⟨⟨by decide +kernel, by decide +kernel⟩, List.mem_of_getElem? (i := 940) (by decide +kernel), List.mem_of_getElem? (i := 1296) (by decide +kernel), List.mem_of_getElem? (i := 1297) (by decide +kernel)⟩
theorem lw_p62 : lw_okq (⟨"FilmPrinterModel", "reckonAll", "(II)V"⟩, 46) := ⟨⟨by decide +kernel, by decide +kernel⟩, List.mem_of_getElem? (i := 940) (by decide +kernel), List.mem_of_getElem? (i := 1300) (by decide +kernel), List.mem_of_getElem? (i := 1301) (by decide +kernel)⟩
theorem lw_p63 : lw_okq (⟨"FilmPrinterModel", "reckon", "(IJJ)J"⟩, 46) := ⟨⟨by decide +kernel, by decide +kernel⟩, List.mem_of_getElem? (i := 940) (by decide +kernel), List.mem_of_getElem? (i := 1304) (by decide +kernel), List.mem_of_getElem? (i := 1305) (by decide +kernel)⟩
def lw_privs_4 : List (MethodName × Nat) := [(⟨"FilmPrinterModel", "openBracket", "(I)V"⟩, 46), (⟨"FilmPrinterModel", "readPart", "()I"⟩, 46), (⟨"FilmPrinterModel", "partAt", "()I"⟩, 46), (⟨"FilmPrinterModel", "leaf", "(ZII)V"⟩, 46), (⟨"FilmPrinterModel", "emit", "(II)V"⟩, 46), (⟨"FilmPrinterModel", "behindSum", "(Z)I"⟩, 46), (⟨"FilmPrinterModel", "settle", "(I)V"⟩, 46), (⟨"FilmPrinterModel", "inner", "()I"⟩, 46), (⟨"FilmPrinterModel", "isCompared", "()Z"⟩, 46), (⟨"FilmPrinterModel", "behindTest", "()I"⟩, 46), (⟨"FilmPrinterModel", "lightOf", "(II)I"⟩, 46), (⟨"FilmPrinterModel", "ask", "(II)V"⟩, 46), (⟨"FilmPrinterModel", "find", "(IIII)I"⟩, 46), (⟨"FilmPrinterModel", "isSo", "(I)Z"⟩, 46), (⟨"FilmPrinterModel", "reckonAll", "(II)V"⟩, 46), (⟨"FilmPrinterModel", "reckon", "(IJJ)J"⟩, 46)]
theorem lw_r4 : ∀ q ∈ lw_privs_4, lw_okq q := List.forall_mem_cons.mpr ⟨lw_p48, List.forall_mem_cons.mpr ⟨lw_p49, List.forall_mem_cons.mpr ⟨lw_p50, List.forall_mem_cons.mpr ⟨lw_p51, List.forall_mem_cons.mpr ⟨lw_p52, List.forall_mem_cons.mpr ⟨lw_p53, List.forall_mem_cons.mpr ⟨lw_p54, List.forall_mem_cons.mpr ⟨lw_p55, List.forall_mem_cons.mpr ⟨lw_p56, List.forall_mem_cons.mpr ⟨lw_p57, List.forall_mem_cons.mpr ⟨lw_p58, List.forall_mem_cons.mpr ⟨lw_p59, List.forall_mem_cons.mpr ⟨lw_p60, List.forall_mem_cons.mpr ⟨lw_p61, List.forall_mem_cons.mpr ⟨lw_p62, List.forall_mem_cons.mpr ⟨lw_p63, fun _ h => absurd h List.not_mem_nil⟩⟩⟩⟩⟩⟩⟩⟩⟩⟩⟩⟩⟩⟩⟩⟩
theorem lw_p64 : lw_okq (⟨"FilmPrinterModel", "titleOf", "(II)I"⟩, 46) := ⟨⟨by decide +kernel, by decide +kernel⟩, List.mem_of_getElem? (i := 940) (by decide +kernel), List.mem_of_getElem? (i := 1310) (by decide +kernel), List.mem_of_getElem? (i := 1311) (by decide +kernel)⟩
theorem lw_p65 : lw_okq (⟨"FilmPrinterModel", "cutOf", "(II)I"⟩, 46) := ⟨⟨by decide +kernel, by decide +kernel⟩, List.mem_of_getElem? (i := 940) (by decide +kernel), List.mem_of_getElem? (i := 1314) (by decide +kernel), List.mem_of_getElem? (i := 1315) (by decide +kernel)⟩
theorem lw_p66 : lw_okq (⟨"FilmPrinterModel", "findEdition", "(I)V"⟩, 46) := ⟨⟨by decide +kernel, by decide +kernel⟩, List.mem_of_getElem? (i := 940) (by decide +kernel), List.mem_of_getElem? (i := 1322) (by decide +kernel), List.mem_of_getElem? (i := 1323) (by decide +kernel)⟩
theorem lw_p67 : lw_okq (⟨"FilmPrinterModel", "moved", "(II)I"⟩, 46) := ⟨⟨by decide +kernel, by decide +kernel⟩, List.mem_of_getElem? (i := 940) (by decide +kernel), List.mem_of_getElem? (i := 1339) (by decide +kernel), List.mem_of_getElem? (i := 1340) (by decide +kernel)⟩
theorem lw_p68 : lw_okq (⟨"FilmPrinterModel", "printOf", "(II)I"⟩, 46) := ⟨⟨by decide +kernel, by decide +kernel⟩, List.mem_of_getElem? (i := 940) (by decide +kernel), List.mem_of_getElem? (i := 1343) (by decide +kernel), List.mem_of_getElem? (i := 1344) (by decide +kernel)⟩
theorem lw_p69 : lw_okq (⟨"FilmPrinterModel", "greyOf", "(I)I"⟩, 46) := ⟨⟨by decide +kernel, by decide +kernel⟩, List.mem_of_getElem? (i := 940) (by decide +kernel), List.mem_of_getElem? (i := 1347) (by decide +kernel), List.mem_of_getElem? (i := 1348) (by decide +kernel)⟩
theorem lw_p70 : lw_okq (⟨"FilmPrinterModel", "explains", "(I)Z"⟩, 46) := ⟨⟨by decide +kernel, by decide +kernel⟩, List.mem_of_getElem? (i := 940) (by decide +kernel), List.mem_of_getElem? (i := 1366) (by decide +kernel), List.mem_of_getElem? (i := 1367) (by decide +kernel)⟩
theorem lw_p71 : lw_okq (⟨"FilmPrinterModel", "goOn", "(II)V"⟩, 46) := ⟨⟨by decide +kernel, by decide +kernel⟩, List.mem_of_getElem? (i := 940) (by decide +kernel), List.mem_of_getElem? (i := 1370) (by decide +kernel), List.mem_of_getElem? (i := 1371) (by decide +kernel)⟩
theorem lw_p72 : lw_okq (⟨"FilmPrinterModel", "apart", "(II)I"⟩, 46) := ⟨⟨by decide +kernel, by decide +kernel⟩, List.mem_of_getElem? (i := 940) (by decide +kernel), List.mem_of_getElem? (i := 1374) (by decide +kernel), List.mem_of_getElem? (i := 1375) (by decide +kernel)⟩
theorem lw_p73 : lw_okq (⟨"FilmPrinterModel", "hear", "(I)I"⟩, 46) := ⟨⟨by decide +kernel, by decide +kernel⟩, List.mem_of_getElem? (i := 940) (by decide +kernel), List.mem_of_getElem? (i := 1390) (by decide +kernel), List.mem_of_getElem? (i := 1391) (by decide +kernel)⟩
theorem lw_p74 : lw_okq (⟨"FilmPrinterModel", "frames", "()I"⟩, 46) := ⟨⟨by decide +kernel, by decide +kernel⟩, List.mem_of_getElem? (i := 940) (by decide +kernel), List.mem_of_getElem? (i := 1394) (by decide +kernel), List.mem_of_getElem? (i := 1395) (by decide +kernel)⟩
theorem lw_p75 : lw_okq (⟨"FilmPrinterModel", "shotWith", "(I)I"⟩, 46) := ⟨⟨by decide +kernel, by decide +kernel⟩, List.mem_of_getElem? (i := 940) (by decide +kernel), List.mem_of_getElem? (i := 1398) (by decide +kernel), List.mem_of_getElem? (i := 1399) (by decide +kernel)⟩
theorem lw_p76 : lw_okq (⟨"FilmPrinterModel", "soundOf", "(I)I"⟩, 46) := ⟨⟨by decide +kernel, by decide +kernel⟩, List.mem_of_getElem? (i := 940) (by decide +kernel), List.mem_of_getElem? (i := 1406) (by decide +kernel), List.mem_of_getElem? (i := 1407) (by decide +kernel)⟩
theorem lw_p77 : lw_okq (⟨"FilmPrinterModel", "findMatches", "(I)V"⟩, 46) := ⟨⟨by decide +kernel, by decide +kernel⟩, List.mem_of_getElem? (i := 940) (by decide +kernel), List.mem_of_getElem? (i := 1421) (by decide +kernel), List.mem_of_getElem? (i := 1422) (by decide +kernel)⟩
theorem lw_p78 : lw_okq (⟨"FilmPrinterModel", "findGreys", "()V"⟩, 46) := ⟨⟨by decide +kernel, by decide +kernel⟩, List.mem_of_getElem? (i := 940) (by decide +kernel), List.mem_of_getElem? (i := 1425) (by decide +kernel), List.mem_of_getElem? (i := 1426) (by decide +kernel)⟩
theorem lw_p79 : lw_okq (⟨"FilmPrinterModel", "isAlike", "(III)Z"⟩, 46) := ⟨⟨by decide +kernel, by decide +kernel⟩, List.mem_of_getElem? (i := 940) (by decide +kernel), List.mem_of_getElem? (i := 1429) (by decide +kernel), List.mem_of_getElem? (i := 1430) (by decide +kernel)⟩
def lw_privs_5 : List (MethodName × Nat) := [(⟨"FilmPrinterModel", "titleOf", "(II)I"⟩, 46), (⟨"FilmPrinterModel", "cutOf", "(II)I"⟩, 46), (⟨"FilmPrinterModel", "findEdition", "(I)V"⟩, 46), (⟨"FilmPrinterModel", "moved", "(II)I"⟩, 46), (⟨"FilmPrinterModel", "printOf", "(II)I"⟩, 46), (⟨"FilmPrinterModel", "greyOf", "(I)I"⟩, 46), (⟨"FilmPrinterModel", "explains", "(I)Z"⟩, 46), (⟨"FilmPrinterModel", "goOn", "(II)V"⟩, 46), (⟨"FilmPrinterModel", "apart", "(II)I"⟩, 46), (⟨"FilmPrinterModel", "hear", "(I)I"⟩, 46), (⟨"FilmPrinterModel", "frames", "()I"⟩, 46), (⟨"FilmPrinterModel", "shotWith", "(I)I"⟩, 46), (⟨"FilmPrinterModel", "soundOf", "(I)I"⟩, 46), (⟨"FilmPrinterModel", "findMatches", "(I)V"⟩, 46), (⟨"FilmPrinterModel", "findGreys", "()V"⟩, 46), (⟨"FilmPrinterModel", "isAlike", "(III)Z"⟩, 46)]
theorem lw_r5 : ∀ q ∈ lw_privs_5, lw_okq q := List.forall_mem_cons.mpr ⟨lw_p64, List.forall_mem_cons.mpr ⟨lw_p65, List.forall_mem_cons.mpr ⟨lw_p66, List.forall_mem_cons.mpr ⟨lw_p67, List.forall_mem_cons.mpr ⟨lw_p68, List.forall_mem_cons.mpr ⟨lw_p69, List.forall_mem_cons.mpr ⟨lw_p70, List.forall_mem_cons.mpr ⟨lw_p71, List.forall_mem_cons.mpr ⟨lw_p72, List.forall_mem_cons.mpr ⟨lw_p73, List.forall_mem_cons.mpr ⟨lw_p74, List.forall_mem_cons.mpr ⟨lw_p75, List.forall_mem_cons.mpr ⟨lw_p76, List.forall_mem_cons.mpr ⟨lw_p77, List.forall_mem_cons.mpr ⟨lw_p78, List.forall_mem_cons.mpr ⟨lw_p79, fun _ h => absurd h List.not_mem_nil⟩⟩⟩⟩⟩⟩⟩⟩⟩⟩⟩⟩⟩⟩⟩⟩
theorem lw_p80 : lw_okq (⟨"FilmPrinterModel", "findOne", "()V"⟩, 46) := ⟨⟨by decide +kernel, by decide +kernel⟩, List.mem_of_getElem? (i := 940) (by decide +kernel), List.mem_of_getElem? (i := 1442) (by decide +kernel), List.mem_of_getElem? (i := 1443) (by decide +kernel)⟩
theorem lw_p81 : lw_okq (⟨"FilmPrinterModel", "goFrom", "(II)V"⟩, 46) := ⟨⟨by decide +kernel, by decide +kernel⟩, List.mem_of_getElem? (i := 940) (by decide +kernel), List.mem_of_getElem? (i := 1446) (by decide +kernel), List.mem_of_getElem? (i := 1447) (by decide +kernel)⟩
theorem lw_p82 : lw_okq (⟨"FilmPrinterModel", "scratch", "(II)I"⟩, 46) := ⟨⟨by decide +kernel, by decide +kernel⟩, List.mem_of_getElem? (i := 940) (by decide +kernel), List.mem_of_getElem? (i := 1450) (by decide +kernel), List.mem_of_getElem? (i := 1451) (by decide +kernel)⟩
def lw_privs_6 : List (MethodName × Nat) := [(⟨"FilmPrinterModel", "findOne", "()V"⟩, 46), (⟨"FilmPrinterModel", "goFrom", "(II)V"⟩, 46), (⟨"FilmPrinterModel", "scratch", "(II)I"⟩, 46)]
theorem lw_r6 : ∀ q ∈ lw_privs_6, lw_okq q := List.forall_mem_cons.mpr ⟨lw_p80, List.forall_mem_cons.mpr ⟨lw_p81, List.forall_mem_cons.mpr ⟨lw_p82, fun _ h => absurd h List.not_mem_nil⟩⟩⟩
def lw_privs : List (MethodName × Nat) := lw_privs_1 ++ (lw_privs_2 ++ (lw_privs_3 ++ (lw_privs_4 ++ (lw_privs_5 ++ (lw_privs_6)))))
def lw_tbl : List Cond := k2_sels lw_privs ++ tables_1
theorem lw_privs_ok : ∀ q ∈ lw_privs, lw_okq q := by
  show ∀ q ∈ lw_privs_1 ++ (lw_privs_2 ++ (lw_privs_3 ++ (lw_privs_4 ++ (lw_privs_5 ++ (lw_privs_6))))), lw_okq q
  exact List.forall_mem_append.mpr ⟨lw_r1, List.forall_mem_append.mpr ⟨lw_r2, List.forall_mem_append.mpr ⟨lw_r3, List.forall_mem_append.mpr ⟨lw_r4, List.forall_mem_append.mpr ⟨lw_r5, lw_r6⟩⟩⟩⟩⟩
end
section
-- the classes: names, fields in the order of the slots (declaring class, name, descriptor, final), their types
def R_Asker : String := "FilmPrinter$Asker"
def F_Asker : u_T := fun k => match k with
  | 0 => ("FilmPrinter$Asker", "stack", "[I", true)
  | 1 => ("FilmPrinter$Asker", "traits", "[I", true)
  | 2 => ("FilmPrinter$Asker", "top", "I", false)
  | 3 => ("FilmPrinter$Asker", "light", "I", false)
  | 4 => ("FilmPrinter$Asker", "title", "I", false)
  | _ => ("FilmPrinter$Asker", "cut", "Z", false)
def t_Asker : Nat → FieldType := fun k => match k with
  | 0 => .array .int
  | 1 => .array .int
  | 2 => .int
  | 3 => .int
  | 4 => .int
  | _ => .boolean
theorem n_Asker : ∀ a, a < 6 → ∀ b, b < 6 → a ≠ b → (F_Asker a).2.1 ≠ (F_Asker b).2.1 := by decide +kernel
theorem t_Asker_ok : ∀ k, k < 6 → parseFieldDescriptor (F_Asker k).2.2.1 = some (t_Asker k) := by decide +kernel
theorem i_Asker : ∀ w ∈ u_ws R_Asker F_Asker 6, w ∈ lw_tbl := by decide +kernel
def R_Edition : String := "FilmPrinter$Edition"
def F_Edition : u_T := fun k => match k with
  | 0 => ("FilmPrinter$Edition", "placeCount", "I", false)
  | 1 => ("FilmPrinter$Edition", "keptCount", "I", false)
  | 2 => ("FilmPrinter$Edition", "shotAt", "[I", true)
  | 3 => ("FilmPrinter$Edition", "frameAt", "[I", true)
  | 4 => ("FilmPrinter$Edition", "partAt", "[I", true)
  | _ => ("FilmPrinter$Edition", "lights", "[I", true)
def t_Edition : Nat → FieldType := fun k => match k with
  | 0 => .int
  | 1 => .int
  | 2 => .array .int
  | 3 => .array .int
  | 4 => .array .int
  | _ => .array .int
theorem n_Edition : ∀ a, a < 6 → ∀ b, b < 6 → a ≠ b → (F_Edition a).2.1 ≠ (F_Edition b).2.1 := by decide +kernel
theorem t_Edition_ok : ∀ k, k < 6 → parseFieldDescriptor (F_Edition k).2.2.1 = some (t_Edition k) := by decide +kernel
theorem i_Edition : ∀ w ∈ u_ws R_Edition F_Edition 6, w ∈ lw_tbl := by decide +kernel
def R_Explainer : String := "FilmPrinter$Explainer"
def F_Explainer : u_T := fun k => match k with
  | 0 => ("FilmPrinter$Explainer", "apart", "[I", true)
  | 1 => ("FilmPrinter$Explainer", "least", "[I", true)
  | 2 => ("FilmPrinter$Explainer", "way", "[I", true)
  | 3 => ("FilmPrinter$Explainer", "cost", "I", false)
  | 4 => ("FilmPrinter$Explainer", "failCount", "I", false)
  | _ => ("FilmPrinter$Explainer", "apartCount", "I", false)
def t_Explainer : Nat → FieldType := fun k => match k with
  | 0 => .array .int
  | 1 => .array .int
  | 2 => .array .int
  | 3 => .int
  | 4 => .int
  | _ => .int
theorem n_Explainer : ∀ a, a < 6 → ∀ b, b < 6 → a ≠ b → (F_Explainer a).2.1 ≠ (F_Explainer b).2.1 := by decide +kernel
theorem t_Explainer_ok : ∀ k, k < 6 → parseFieldDescriptor (F_Explainer k).2.2.1 = some (t_Explainer k) := by decide +kernel
theorem i_Explainer : ∀ w ∈ u_ws R_Explainer F_Explainer 6, w ∈ lw_tbl := by decide +kernel
def R_Law : String := "FilmPrinter$Law"
def F_Law : u_T := fun k => match k with
  | 0 => ("FilmPrinter$Law", "clauseCount", "I", false)
  | 1 => ("FilmPrinter$Law", "codeLength", "I", false)
  | 2 => ("FilmPrinter$Law", "heads", "[I", true)
  | 3 => ("FilmPrinter$Law", "starts", "[I", true)
  | 4 => ("FilmPrinter$Law", "steps", "[I", true)
  | _ => ("FilmPrinter$Law", "values", "[I", true)
def t_Law : Nat → FieldType := fun k => match k with
  | 0 => .int
  | 1 => .int
  | 2 => .array .int
  | 3 => .array .int
  | 4 => .array .int
  | _ => .array .int
theorem n_Law : ∀ a, a < 6 → ∀ b, b < 6 → a ≠ b → (F_Law a).2.1 ≠ (F_Law b).2.1 := by decide +kernel
theorem t_Law_ok : ∀ k, k < 6 → parseFieldDescriptor (F_Law k).2.2.1 = some (t_Law k) := by decide +kernel
theorem i_Law : ∀ w ∈ u_ws R_Law F_Law 6, w ∈ lw_tbl := by decide +kernel
def R_Maker : String := "FilmPrinter$Maker"
def F_Maker : u_T := fun k => match k with
  | 0 => ("FilmPrinter$Maker", "leastBehind0", "[I", true)
  | 1 => ("FilmPrinter$Maker", "leastBehind1", "[I", true)
  | 2 => ("FilmPrinter$Maker", "taken", "[I", true)
  | 3 => ("FilmPrinter$Maker", "cost", "I", false)
  | 4 => ("FilmPrinter$Maker", "seamCount", "I", false)
  | 5 => ("FilmPrinter$Maker", "missingCount", "I", false)
  | 6 => ("FilmPrinter$Maker", "longestMissing", "I", false)
  | _ => ("FilmPrinter$Maker", "olderCount", "I", false)
def t_Maker : Nat → FieldType := fun k => match k with
  | 0 => .array .int
  | 1 => .array .int
  | 2 => .array .int
  | 3 => .int
  | 4 => .int
  | 5 => .int
  | 6 => .int
  | _ => .int
theorem n_Maker : ∀ a, a < 8 → ∀ b, b < 8 → a ≠ b → (F_Maker a).2.1 ≠ (F_Maker b).2.1 := by decide +kernel
theorem t_Maker_ok : ∀ k, k < 8 → parseFieldDescriptor (F_Maker k).2.2.1 = some (t_Maker k) := by decide +kernel
theorem i_Maker : ∀ w ∈ u_ws R_Maker F_Maker 8, w ∈ lw_tbl := by decide +kernel
def R_Matcher : String := "FilmPrinter$Matcher"
def F_Matcher : u_T := fun k => match k with
  | 0 => ("FilmPrinter$Matcher", "frameOf", "[I", true)
  | 1 => ("FilmPrinter$Matcher", "scratchOf", "[I", true)
  | 2 => ("FilmPrinter$Matcher", "matchedCounts", "[I", true)
  | 3 => ("FilmPrinter$Matcher", "fresh", "[Z", true)
  | 4 => ("FilmPrinter$Matcher", "most", "[I", true)
  | _ => ("FilmPrinter$Matcher", "worthwhile", "[I", true)
def t_Matcher : Nat → FieldType := fun k => match k with
  | 0 => .array .int
  | 1 => .array .int
  | 2 => .array .int
  | 3 => .array .boolean
  | 4 => .array .int
  | _ => .array .int
theorem n_Matcher : ∀ a, a < 6 → ∀ b, b < 6 → a ≠ b → (F_Matcher a).2.1 ≠ (F_Matcher b).2.1 := by decide +kernel
theorem t_Matcher_ok : ∀ k, k < 6 → parseFieldDescriptor (F_Matcher k).2.2.1 = some (t_Matcher k) := by decide +kernel
theorem i_Matcher : ∀ w ∈ u_ws R_Matcher F_Matcher 6, w ∈ lw_tbl := by decide +kernel
def R_Projector : String := "FilmPrinter$Projector"
def F_Projector : u_T := fun k => match k with
  | 0 => ("FilmPrinter$Projector", "jumps", "[I", true)
  | 1 => ("FilmPrinter$Projector", "jumpCount", "I", false)
  | 2 => ("FilmPrinter$Projector", "offCount", "I", false)
  | 3 => ("FilmPrinter$Projector", "joinCount", "I", false)
  | _ => ("FilmPrinter$Projector", "loudCount", "I", false)
def t_Projector : Nat → FieldType := fun k => match k with
  | 0 => .array .int
  | 1 => .int
  | 2 => .int
  | 3 => .int
  | _ => .int
theorem n_Projector : ∀ a, a < 5 → ∀ b, b < 5 → a ≠ b → (F_Projector a).2.1 ≠ (F_Projector b).2.1 := by decide +kernel
theorem t_Projector_ok : ∀ k, k < 5 → parseFieldDescriptor (F_Projector k).2.2.1 = some (t_Projector k) := by decide +kernel
theorem i_Projector : ∀ w ∈ u_ws R_Projector F_Projector 5, w ∈ lw_tbl := by decide +kernel
def R_Reader : String := "FilmPrinter$Reader"
def F_Reader : u_T := fun k => match k with
  | 0 => ("FilmPrinter$Reader", "draft", "LFilmPrinter$Law;", true)
  | 1 => ("FilmPrinter$Reader", "kinds", "[I", true)
  | 2 => ("FilmPrinter$Reader", "values", "[I", true)
  | 3 => ("FilmPrinter$Reader", "places", "[I", true)
  | 4 => ("FilmPrinter$Reader", "tokenCount", "I", false)
  | 5 => ("FilmPrinter$Reader", "next", "I", false)
  | _ => ("FilmPrinter$Reader", "partCount", "I", false)
def t_Reader : Nat → FieldType := fun k => match k with
  | 0 => .object "FilmPrinter$Law"
  | 1 => .array .int
  | 2 => .array .int
  | 3 => .array .int
  | 4 => .int
  | 5 => .int
  | _ => .int
theorem n_Reader : ∀ a, a < 7 → ∀ b, b < 7 → a ≠ b → (F_Reader a).2.1 ≠ (F_Reader b).2.1 := by decide +kernel
theorem t_Reader_ok : ∀ k, k < 7 → parseFieldDescriptor (F_Reader k).2.2.1 = some (t_Reader k) := by decide +kernel
theorem i_Reader : ∀ w ∈ u_ws R_Reader F_Reader 7, w ∈ lw_tbl := by decide +kernel
def R_State : String := "FilmPrinter$State"
def F_State : u_T := fun k => match k with
  | 0 => ("FilmPrinter$State", "shotCount", "I", false)
  | 1 => ("FilmPrinter$State", "frameCount", "I", false)
  | 2 => ("FilmPrinter$State", "seenCount", "I", false)
  | 3 => ("FilmPrinter$State", "shots", "[I", true)
  | 4 => ("FilmPrinter$State", "frameGreys", "[I", true)
  | 5 => ("FilmPrinter$State", "frameShots", "[I", true)
  | 6 => ("FilmPrinter$State", "terms", "[I", true)
  | 7 => ("FilmPrinter$State", "law", "LFilmPrinter$Law;", true)
  | 8 => ("FilmPrinter$State", "fails", "[I", true)
  | 9 => ("FilmPrinter$State", "seen", "[I", true)
  | 10 => ("FilmPrinter$State", "copyCounts", "[I", true)
  | 11 => ("FilmPrinter$State", "copyGreys", "[I", true)
  | 12 => ("FilmPrinter$State", "copyScratches", "[I", true)
  | 13 => ("FilmPrinter$State", "pairCounts", "[I", true)
  | _ => ("FilmPrinter$State", "rights", "[I", true)
def t_State : Nat → FieldType := fun k => match k with
  | 0 => .int
  | 1 => .int
  | 2 => .int
  | 3 => .array .int
  | 4 => .array .int
  | 5 => .array .int
  | 6 => .array .int
  | 7 => .object "FilmPrinter$Law"
  | 8 => .array .int
  | 9 => .array .int
  | 10 => .array .int
  | 11 => .array .int
  | 12 => .array .int
  | 13 => .array .int
  | _ => .array .int
theorem n_State : ∀ a, a < 15 → ∀ b, b < 15 → a ≠ b → (F_State a).2.1 ≠ (F_State b).2.1 := by decide +kernel
theorem t_State_ok : ∀ k, k < 15 → parseFieldDescriptor (F_State k).2.2.1 = some (t_State k) := by decide +kernel
theorem i_State : ∀ w ∈ u_ws R_State F_State 15, w ∈ lw_tbl := by decide +kernel
def R_Tape : String := "FilmPrinter$Tape"
def F_Tape : u_T := fun k => match k with
  | 0 => ("FilmPrinter$Tape", "bytes", "[I", true)
  | _ => ("FilmPrinter$Tape", "length", "I", false)
def t_Tape : Nat → FieldType := fun k => match k with
  | 0 => .array .int
  | _ => .int
theorem n_Tape : ∀ a, a < 2 → ∀ b, b < 2 → a ≠ b → (F_Tape a).2.1 ≠ (F_Tape b).2.1 := by decide +kernel
theorem t_Tape_ok : ∀ k, k < 2 → parseFieldDescriptor (F_Tape k).2.2.1 = some (t_Tape k) := by decide +kernel
theorem i_Tape : ∀ w ∈ u_ws R_Tape F_Tape 2, w ∈ lw_tbl := by decide +kernel
def R_Fp : String := "FilmPrinter"
def F_Fp : u_T := fun k => match k with
  | 0 => ("FilmPrinter", "now", "LFilmPrinter$State;", true)
  | 1 => ("FilmPrinter", "images", "[LFilmPrinter$State;", true)
  | 2 => ("FilmPrinter", "tape", "LFilmPrinter$Tape;", true)
  | 3 => ("FilmPrinter", "reader", "LFilmPrinter$Reader;", true)
  | 4 => ("FilmPrinter", "asker", "LFilmPrinter$Asker;", true)
  | 5 => ("FilmPrinter", "film", "LFilmPrinter$Edition;", true)
  | 6 => ("FilmPrinter", "explainer", "LFilmPrinter$Explainer;", true)
  | 7 => ("FilmPrinter", "projector", "LFilmPrinter$Projector;", true)
  | 8 => ("FilmPrinter", "matcher", "LFilmPrinter$Matcher;", true)
  | 9 => ("FilmPrinter", "maker", "LFilmPrinter$Maker;", true)
  | 10 => ("FilmPrinter", "faultPlace", "I", false)
  | _ => ("FilmPrinter", "refusedBy", "I", false)
def t_Fp : Nat → FieldType := fun k => match k with
  | 0 => .object "FilmPrinter$State"
  | 1 => .array (.object "FilmPrinter$State")
  | 2 => .object "FilmPrinter$Tape"
  | 3 => .object "FilmPrinter$Reader"
  | 4 => .object "FilmPrinter$Asker"
  | 5 => .object "FilmPrinter$Edition"
  | 6 => .object "FilmPrinter$Explainer"
  | 7 => .object "FilmPrinter$Projector"
  | 8 => .object "FilmPrinter$Matcher"
  | 9 => .object "FilmPrinter$Maker"
  | 10 => .int
  | _ => .int
theorem n_Fp : ∀ a, a < 12 → ∀ b, b < 12 → a ≠ b → (F_Fp a).2.1 ≠ (F_Fp b).2.1 := by decide +kernel
theorem t_Fp_ok : ∀ k, k < 12 → parseFieldDescriptor (F_Fp k).2.2.1 = some (t_Fp k) := by decide +kernel
theorem i_Fp : ∀ w ∈ u_ws R_Fp F_Fp 12, w ∈ lw_tbl := by decide +kernel
def R_Mod : String := "FilmPrinterModel"
def F_Mod : u_T := fun k => match k with
  | 0 => ("FilmPrinterModel", "thrown", "I", false)
  | 1 => ("FilmPrinterModel", "status", "I", false)
  | 2 => ("FilmPrinterModel", "row", "[I", true)
  | 3 => ("FilmPrinterModel", "images", "[I", true)
  | 4 => ("FilmPrinterModel", "isKept", "[Z", true)
  | 5 => ("FilmPrinterModel", "tape", "[I", true)
  | 6 => ("FilmPrinterModel", "taped", "I", false)
  | 7 => ("FilmPrinterModel", "from", "I", false)
  | 8 => ("FilmPrinterModel", "to", "I", false)
  | 9 => ("FilmPrinterModel", "sort", "I", false)
  | 10 => ("FilmPrinterModel", "worth", "J", false)
  | 11 => ("FilmPrinterModel", "fault", "I", false)
  | 12 => ("FilmPrinterModel", "bad", "Z", false)
  | 13 => ("FilmPrinterModel", "nClauses", "I", false)
  | 14 => ("FilmPrinterModel", "nClause", "[I", true)
  | 15 => ("FilmPrinterModel", "nCode", "I", false)
  | 16 => ("FilmPrinterModel", "nOp", "[I", true)
  | 17 => ("FilmPrinterModel", "nArg", "[I", true)
  | 18 => ("FilmPrinterModel", "nLeaves", "I", false)
  | 19 => ("FilmPrinterModel", "pile", "[I", true)
  | 20 => ("FilmPrinterModel", "pileAt", "[I", true)
  | 21 => ("FilmPrinterModel", "piled", "I", false)
  | 22 => ("FilmPrinterModel", "opened", "I", false)
  | 23 => ("FilmPrinterModel", "set", "[J", true)
  | 24 => ("FilmPrinterModel", "rest", "[J", true)
  | 25 => ("FilmPrinterModel", "broken", "Z", false)
  | 26 => ("FilmPrinterModel", "value", "J", false)
  | 27 => ("FilmPrinterModel", "sum", "J", false)
  | 28 => ("FilmPrinterModel", "places", "I", false)
  | 29 => ("FilmPrinterModel", "parts", "I", false)
  | 30 => ("FilmPrinterModel", "partOf", "[I", true)
  | 31 => ("FilmPrinterModel", "frameOf", "[I", true)
  | 32 => ("FilmPrinterModel", "shotOf", "[I", true)
  | 33 => ("FilmPrinterModel", "lights", "[I", true)
  | 34 => ("FilmPrinterModel", "begins", "[I", true)
  | 35 => ("FilmPrinterModel", "aparts", "[I", true)
  | 36 => ("FilmPrinterModel", "costs", "[I", true)
  | 37 => ("FilmPrinterModel", "fails", "[I", true)
  | 38 => ("FilmPrinterModel", "hows", "[I", true)
  | 39 => ("FilmPrinterModel", "isFound", "[Z", true)
  | 40 => ("FilmPrinterModel", "follow", "[I", true)
  | 41 => ("FilmPrinterModel", "matches", "[I", true)
  | 42 => ("FilmPrinterModel", "copied", "[I", true)
  | 43 => ("FilmPrinterModel", "greys", "[I", true)
  | 44 => ("FilmPrinterModel", "ahead", "[I", true)
  | _ => ("FilmPrinterModel", "taken", "[I", true)
def t_Mod : Nat → FieldType := fun k => match k with
  | 0 => .int
  | 1 => .int
  | 2 => .array .int
  | 3 => .array .int
  | 4 => .array .boolean
  | 5 => .array .int
  | 6 => .int
  | 7 => .int
  | 8 => .int
  | 9 => .int
  | 10 => .long
  | 11 => .int
  | 12 => .boolean
  | 13 => .int
  | 14 => .array .int
  | 15 => .int
  | 16 => .array .int
  | 17 => .array .int
  | 18 => .int
  | 19 => .array .int
  | 20 => .array .int
  | 21 => .int
  | 22 => .int
  | 23 => .array .long
  | 24 => .array .long
  | 25 => .boolean
  | 26 => .long
  | 27 => .long
  | 28 => .int
  | 29 => .int
  | 30 => .array .int
  | 31 => .array .int
  | 32 => .array .int
  | 33 => .array .int
  | 34 => .array .int
  | 35 => .array .int
  | 36 => .array .int
  | 37 => .array .int
  | 38 => .array .int
  | 39 => .array .boolean
  | 40 => .array .int
  | 41 => .array .int
  | 42 => .array .int
  | 43 => .array .int
  | 44 => .array .int
  | _ => .array .int
theorem n_Mod : ∀ a, a < 46 → ∀ b, b < 46 → a ≠ b → (F_Mod a).2.1 ≠ (F_Mod b).2.1 := by decide +kernel
theorem t_Mod_ok : ∀ k, k < 46 → parseFieldDescriptor (F_Mod k).2.2.1 = some (t_Mod k) := by decide +kernel
theorem i_Mod : ∀ w ∈ u_ws R_Mod F_Mod 46, w ∈ lw_tbl := by decide +kernel
abbrev x_cls : List vw_C := [(R_Asker, F_Asker, 6), (R_Edition, F_Edition, 6), (R_Explainer, F_Explainer, 6), (R_Law, F_Law, 6), (R_Maker, F_Maker, 8), (R_Matcher, F_Matcher, 6), (R_Projector, F_Projector, 5), (R_Reader, F_Reader, 7), (R_State, F_State, 15), (R_Tape, F_Tape, 2), (R_Fp, F_Fp, 12), (R_Mod, F_Mod, 46)]
end
section
/-! THE ABSTRACT MACHINE: values over the integers, cells numbered in the order of their making -/
abbrev xV : Type := Int ⊕ Int ⊕ Option Nat ⊕ Nat ⊕ Nat ⊕ Unit
abbrev vI (x : Int) : xV := .inl x
abbrev vL (x : Int) : xV := .inr (.inl x)
abbrev vR (k : Nat) : xV := .inr (.inr (.inl (some k)))
abbrev vN : xV := .inr (.inr (.inl none))
abbrev vE (j : Nat) : xV := .inr (.inr (.inr (.inl j)))
abbrev vS (j : Nat) : xV := .inr (.inr (.inr (.inr (.inl j))))
abbrev vU : xV := .inr (.inr (.inr (.inr (.inr ()))))
/-- a cell: an object (number of its class, fields), an array of numbers (kind 0 int, 1 boolean, 2 long; length; contents), an array of references -/
abbrev xC : Type := (Nat × List xV) ⊕ (Nat × Nat × (Nat → Int)) ⊕ (Nat × (Nat → Option Nat))
abbrev c_O (ci : Nat) (fs : List xV) : xC := .inl (ci, fs)
abbrev c_A (k n : Nat) (f : Nat → Int) : xC := .inr (.inl (k, n, f))
abbrev c_R (n : Nat) (f : Nat → Option Nat) : xC := .inr (.inr (n, f))
/-- the heap: cells, how many, slots in all -/
abbrev xH : Type := (Nat → Option xC) × Nat × Nat
/-- what lies outside: arrays that nobody writes (kind 0 int, 3 byte; length; contents) -/
abbrev xX : Type := Nat → Nat × Nat × (Nat → Int)
/-- a step's end: on at (pc, locals, stack, heap); a call (method, arguments, pc behind it, stack below); an answer -/
abbrev xR : Type := (Nat × List xV × List xV × xH) ⊕ (Nat × List xV × Nat × List xV) ⊕ (Option xV)
abbrev xF : Type := Nat → List xV → List xV → xH → Option xR
abbrev xr (x : Int) : Prop := -2147483648 ≤ x ∧ x ≤ 2147483647
abbrev xrl (x : Int) : Prop := -9223372036854775808 ≤ x ∧ x ≤ 9223372036854775807
abbrev xin (i : Int) (n : Nat) : Prop := 0 ≤ i ∧ i < n
def xup {α : Type} (f : Nat → α) (k : Nat) (v : α) : Nat → α := fun j => if j = k then v else f j
def xset (h : xH) (k : Nat) (c : xC) : xH := (xup h.1 k (some c), h.2.1, h.2.2)
def xnew (h : xH) (c : xC) (sz : Nat) : xH := (xup h.1 h.2.1 (some c), h.2.1 + 1, h.2.2 + sz)
def xon (pc : Nat) (L S : List xV) (h : xH) : Option xR := some (.inl (pc, L, S, h))
def xkill (L : List xV) (i : Nat) : List xV := match i with
  | 0 => L
  | j + 1 => match L[j]? with
    | some (.inr (.inl _)) => L.set j vU
    | _ => L
def xst1 (L : List xV) (i : Nat) (v : xV) : List xV := (xkill L i).set i v
def xst2 (L : List xV) (i : Nat) (v : xV) : List xV := ((xkill L i).set i v).set (i + 1) vU
def xcat (v : xV) : Nat := match v with
  | .inr (.inl _) => 2
  | _ => 1
def xwd (S : List xV) : Nat := (S.map xcat).sum
/-- a method's first locals -/
def xlo (as : List xV) : List xV := as.flatMap fun v => match v with
  | .inr (.inl x) => [vL x, vU]
  | v => [v]
def xent (n : Nat) (as : List xV) : List xV := xlo as ++ List.replicate (n - (xlo as).length) vU
def x_ic (b : Int) (n : Nat) : xF := fun pc L S h => xon (pc + n) L (vI b :: S) h
def x_lc (b : Int) (n : Nat) : xF := fun pc L S h => xon (pc + n) L (vL b :: S) h
def x_il (a n : Nat) : xF := fun pc L S h => match L[a]? with
  | some (.inl x) => xon (pc + n) L (vI x :: S) h
  | _ => none
def x_ll (a n : Nat) : xF := fun pc L S h => match L[a]? with
  | some (.inr (.inl x)) => xon (pc + n) L (vL x :: S) h
  | _ => none
def x_al (a n : Nat) : xF := fun pc L S h => match L[a]? with
  | some (.inr (.inr (.inl r))) => xon (pc + n) L (.inr (.inr (.inl r)) :: S) h
  | some (.inr (.inr (.inr (.inl j)))) => xon (pc + n) L (vE j :: S) h
  | some (.inr (.inr (.inr (.inr (.inl j))))) => xon (pc + n) L (vS j :: S) h
  | _ => none
def x_is (a n : Nat) : xF := fun pc L S h => match S with
  | .inl x :: S => if a < L.length then xon (pc + n) (xst1 L a (vI x)) S h else none
  | _ => none
def x_ls (a n : Nat) : xF := fun pc L S h => match S with
  | .inr (.inl x) :: S => if a + 1 < L.length then xon (pc + n) (xst2 L a (vL x)) S h else none
  | _ => none
def x_as (a n : Nat) : xF := fun pc L S h => match S with
  | .inr (.inr (.inl r)) :: S => if a < L.length then xon (pc + n) (xst1 L a (.inr (.inr (.inl r)))) S h else none
  | _ => none
def x_inc (a : Nat) (b : Int) (n : Nat) : xF := fun pc L S h => match L[a]? with
  | some (.inl x) => xon (pc + n) (xst1 L a (vI (x + b))) S h
  | _ => none
def xband (x y : Int) : Int := (Int32.ofInt x &&& Int32.ofInt y).toInt
def xbor (x y : Int) : Int := (Int32.ofInt x ||| Int32.ofInt y).toInt
def xshl (x y : Int) : Int := (Int32.ofInt x <<< (Int32.ofInt y &&& 31)).toInt
def xshr (x y : Int) : Int := (Int32.ofInt x >>> (Int32.ofInt y &&& 31)).toInt
def xushr (x y : Int) : Int := (((Int32.ofInt x).toUInt32 >>> ((Int32.ofInt y).toUInt32 &&& Int32.toUInt32 31)).toInt32).toInt
def xi2c (x : Int) : Int := (((Int32.ofInt x).toUInt32 % 65536).toInt32).toInt
def x_bin (g : Int → Int → Int) : xF := fun pc L S h => match S with
  | .inl y :: .inl x :: S => xon (pc + 1) L (vI (g x y) :: S) h
  | _ => none
def x_div : xF := fun pc L S h => match S with
  | .inl y :: .inl x :: S => if xr x ∧ xr y ∧ y ≠ 0 ∧ y ≠ -1 then xon (pc + 1) L (vI (x.tdiv y) :: S) h else none
  | _ => none
def x_rem : xF := fun pc L S h => match S with
  | .inl y :: .inl x :: S => if xr x ∧ xr y ∧ y ≠ 0 ∧ y ≠ -1 then xon (pc + 1) L (vI (x.tmod y) :: S) h else none
  | _ => none
def x_neg : xF := fun pc L S h => match S with
  | .inl x :: S => xon (pc + 1) L (vI (-x) :: S) h
  | _ => none
def x_binl (g : Int → Int → Int) : xF := fun pc L S h => match S with
  | .inr (.inl y) :: .inr (.inl x) :: S => xon (pc + 1) L (vL (g x y) :: S) h
  | _ => none
def x_ldiv : xF := fun pc L S h => match S with
  | .inr (.inl y) :: .inr (.inl x) :: S => if xrl x ∧ xrl y ∧ y ≠ 0 ∧ x ≠ -9223372036854775808 then xon (pc + 1) L (vL (x.tdiv y) :: S) h else none
  | _ => none
def x_i2l : xF := fun pc L S h => match S with
  | .inl x :: S => if xr x then xon (pc + 1) L (vL x :: S) h else none
  | _ => none
def x_l2i : xF := fun pc L S h => match S with
  | .inr (.inl x) :: S => xon (pc + 1) L (vI x :: S) h
  | _ => none
def x_i2c : xF := fun pc L S h => match S with
  | .inl x :: S => xon (pc + 1) L (vI (xi2c x) :: S) h
  | _ => none
def xcmp (x y : Int) : Int := if x > y then 1 else if x = y then 0 else -1
def x_lcmp : xF := fun pc L S h => match S with
  | .inr (.inl y) :: .inr (.inl x) :: S => if xrl x ∧ xrl y then xon (pc + 1) L (vI (xcmp x y) :: S) h else none
  | _ => none
def x_dup : xF := fun pc L S h => match S with
  | v :: S => if xcat v = 1 then xon (pc + 1) L (v :: v :: S) h else none
  | _ => none
def x_dup2 : xF := fun pc L S h => match S with
  | v :: w :: S => if xcat v = 1 ∧ xcat w = 1 then xon (pc + 1) L (v :: w :: v :: w :: S) h else none
  | _ => none
def x_pop : xF := fun pc L S h => match S with
  | v :: S => if xcat v = 1 then xon (pc + 1) L S h else none
  | _ => none
/-- the six comparisons: 0 eq, 1 ne, 2 lt, 3 ge, 4 gt, 5 le -/
def xcond (a : Nat) (x y : Int) : Prop := match a with
  | 0 => x = y
  | 1 => x ≠ y
  | 2 => x < y
  | 3 => y ≤ x
  | 4 => y < x
  | _ => x ≤ y
def xcondB (a : Nat) (x y : Int) : Bool := match a with
  | 0 => decide (x = y)
  | 1 => decide (x ≠ y)
  | 2 => decide (x < y)
  | 3 => decide (y ≤ x)
  | 4 => decide (y < x)
  | _ => decide (x ≤ y)
def x_if (a : Nat) (t : Nat) : xF := fun pc L S h => match S with
  | .inl x :: S => if xr x then (if xcondB a x 0 = true then xon t L S h else xon (pc + 3) L S h) else none
  | _ => none
def x_cmp (a : Nat) (t : Nat) : xF := fun pc L S h => match S with
  | .inl y :: .inl x :: S => if xr x ∧ xr y then (if xcondB a x y = true then xon t L S h else xon (pc + 3) L S h) else none
  | _ => none
def x_goto (t : Nat) : xF := fun _ L S h => xon t L S h
def x_nnul (t : Nat) : xF := fun pc L S h => match S with
  | .inr (.inr (.inl none)) :: S => xon (pc + 3) L S h
  | .inr (.inr (.inl (some _))) :: S => xon t L S h
  | _ => none
def x_getf (ci k : Nat) : xF := fun pc L S h => match S with
  | .inr (.inr (.inl (some o))) :: S => match h.1 o with
    | some (.inl (cj, fs)) => if cj = ci then match fs[k]? with
      | some v => xon (pc + 3) L (v :: S) h
      | none => none
      else none
    | _ => none
  | _ => none
/-- does a value fit a field of a kind: 0 int, 1 boolean, 2 long, 3 a reference -/
def xfit (ty : Nat) (v : xV) : Bool := match ty, v with
  | 0, .inl _ => true
  | 1, .inl x => decide (x = 0 ∨ x = 1)
  | 2, .inr (.inl _) => true
  | 3, .inr (.inr (.inl _)) => true
  | _, _ => false
def x_putf (ci k ty : Nat) : xF := fun pc L S h => match S with
  | v :: .inr (.inr (.inl (some o))) :: S => match h.1 o with
    | some (.inl (cj, fs)) => if cj = ci ∧ k < fs.length ∧ xfit ty v = true then xon (pc + 3) L S (xset h o (c_O ci (fs.set k v))) else none
    | _ => none
  | _ => none
def x_ald (ka : Nat) (X : xX) : xF := fun pc L S h => match S with
  | .inl i :: .inr (.inr (.inl (some o))) :: S => match h.1 o with
    | some (.inr (.inl (k, n, f))) => if k = ka ∧ xin i n ∧ n < 2147483648 then xon (pc + 1) L ((if ka = 2 then vL (f i.toNat) else vI (f i.toNat)) :: S) h else none
    | some (.inr (.inr (n, f))) => if ka = 4 ∧ xin i n ∧ n < 2147483648 then xon (pc + 1) L (.inr (.inr (.inl (f i.toNat))) :: S) h else none
    | _ => none
  | .inl i :: .inr (.inr (.inr (.inl j))) :: S => if ((ka = 0 ∧ (X j).1 = 0) ∨ (ka = 1 ∧ (X j).1 = 3)) ∧ xin i (X j).2.1 ∧ (X j).2.1 < 2147483648 then xon (pc + 1) L (vI ((X j).2.2 i.toNat) :: S) h else none
  | _ => none
def x_ast (ka : Nat) : xF := fun pc L S h => match S with
  | .inl x :: .inl i :: .inr (.inr (.inl (some o))) :: S => match h.1 o with
    | some (.inr (.inl (k, n, f))) => if k = ka ∧ (ka = 0 ∨ (ka = 1 ∧ (x = 0 ∨ x = 1))) ∧ xin i n ∧ n < 2147483648 then xon (pc + 1) L S (xset h o (c_A k n (xup f i.toNat x))) else none
    | _ => none
  | .inr (.inl x) :: .inl i :: .inr (.inr (.inl (some o))) :: S => match h.1 o with
    | some (.inr (.inl (k, n, f))) => if k = ka ∧ ka = 2 ∧ xin i n ∧ n < 2147483648 then xon (pc + 1) L S (xset h o (c_A k n (xup f i.toNat x))) else none
    | _ => none
  | .inr (.inr (.inl (some v))) :: .inl i :: .inr (.inr (.inl (some o))) :: S => match h.1 o, h.1 v with
    | some (.inr (.inr (n, f))), some (.inl (cj, _)) => if ka = 4 ∧ cj = 8 ∧ xin i n ∧ n < 2147483648 then xon (pc + 1) L S (xset h o (c_R n (xup f i.toNat (some v)))) else none
    | _, _ => none
  | _ => none
def x_alen (X : xX) : xF := fun pc L S h => match S with
  | .inr (.inr (.inl (some o))) :: S => match h.1 o with
    | some (.inr (.inl (_, n, _))) => xon (pc + 1) L (vI n :: S) h
    | _ => none
  | .inr (.inr (.inr (.inl j))) :: S => if (X j).1 = 0 ∨ (X j).1 = 3 then xon (pc + 1) L (vI (X j).2.1 :: S) h else none
  | _ => none
/-- newarray: kind 0, 1, 2 -/
def x_newa (ka : Nat) : xF := fun pc L S h => match S with
  | .inl n :: S => if 0 ≤ n ∧ n ≤ 1000000 then xon (pc + 2) L (vR h.2.1 :: S) (xnew h (c_A ka n.toNat (fun _ => 0)) n.toNat) else none
  | _ => none
def x_anew : xF := fun pc L S h => match S with
  | .inl n :: S => if 0 ≤ n ∧ n ≤ 1000000 then xon (pc + 3) L (vR h.2.1 :: S) (xnew h (c_R n.toNat (fun _ => none)) n.toNat) else none
  | _ => none
def x_new (ci : Nat) (fs : List xV) : xF := fun pc L S h => xon (pc + 3) L (vR h.2.1 :: S) (xnew h (c_O ci fs) fs.length)
/-- a call: method y of n arguments, the receiver counted; the receiver's class (0 is none: static) -/
def xrecv (ci : Nat) (h : xH) (v : xV) : Bool := match v with
  | .inr (.inr (.inl (some o))) => match h.1 o with
    | some (.inl (cj, _)) => cj == ci
    | _ => false
  | _ => false
def x_call (y n : Nat) (ok : xH → List xV → Bool) : xF := fun pc _ S h => if n ≤ S.length ∧ xwd (S.drop n) ≤ 8 ∧ ok h (S.take n).reverse = true then some (.inr (.inl (y, (S.take n).reverse, pc + 3, S.drop n))) else none
def x_ret (ty : Nat) : xF := fun _ _ S _ => match S with
  | [] => if ty = 4 then some (.inr (.inr none)) else none
  | [v] => if ty < 3 ∧ xfit ty v = true then some (.inr (.inr (some v))) else none
  | _ => none
def x_sw (lo : Int) (ts : List Nat) (dflt : Nat) : xF := fun _ L S h => match S with
  | .inl x :: S => if xr x then (if x < lo ∨ lo + ts.length ≤ x then xon dflt L S h else xon (ts.getD (x - lo).toNat dflt) L S h) else none
  | _ => none
def xlook (ps : List (Int × Nat)) (dflt : Nat) (x : Int) : Nat := match ps with
  | [] => dflt
  | q :: ps => if x = q.1 then q.2 else xlook ps dflt x
def x_lsw (ps : List (Int × Nat)) (dflt : Nat) : xF := fun _ L S h => match S with
  | .inl x :: S => if xr x then xon (xlook ps dflt x) L S h else none
  | _ => none
def xcpy (f g : Nat → Int) (sp dp n : Nat) : Nat → Int := fun k => if dp ≤ k ∧ k < dp + n then f (sp + (k - dp)) else g k
def x_copy : xF := fun pc L S h => match S with
  | .inl n :: .inl dp :: .inr (.inr (.inl (some b))) :: .inl sp :: .inr (.inr (.inl (some a))) :: S => match h.1 a, h.1 b with
    | some (.inr (.inl (0, na, f))), some (.inr (.inl (0, nb, g))) => if 0 ≤ n ∧ 0 ≤ dp ∧ 0 ≤ sp ∧ sp + n ≤ na ∧ dp + n ≤ nb ∧ na < 2147483648 ∧ nb < 2147483648 then xon (pc + 3) L S (xset h b (c_A 0 nb (xcpy f g sp.toNat dp.toNat n.toNat))) else none
    | _, _ => none
  | _ => none
/-- the clone of an outer array of ints -/
def x_clone (X : xX) : xF := fun pc L S h => match S with
  | .inr (.inr (.inr (.inl j))) :: S => if (X j).1 = 0 ∧ (X j).2.1 ≤ 1000000 then xon (pc + 3) L (vR h.2.1 :: S) (xnew h (c_A 0 (X j).2.1 (X j).2.2) (X j).2.1) else none
  | _ => none
/-- checkcast to int[] -/
def x_cast : xF := fun pc L S h => match S with
  | .inr (.inr (.inl (some o))) :: S => match h.1 o with
    | some (.inr (.inl (0, _, _))) => xon (pc + 3) L (vR o :: S) h
    | _ => none
  | _ => none
def x_ref (v : xV) (n : Nat) : xF := fun pc L S h => xon (pc + n) L (v :: S) h
/-- Object's own constructor: nothing -/
def x_oin : xF := fun pc L S h => match S with
  | .inr (.inr (.inl (some _))) :: S => if xwd S ≤ 8 then xon (pc + 3) L S h else none
  | _ => none
/-- a String's field -/
def x_gets (k : Nat) : xF := fun pc L S h => match S with
  | .inr (.inr (.inr (.inr (.inl j)))) :: S => xon (pc + 3) L ((if k = 0 then vE (j + 4) else vI 0) :: S) h
  | _ => none
/-- runs: fuel, room for frames, method, pc, locals, stack, heap -/
def xq (P : Nat → Nat → Option xF) (ml : Nat → Nat) : Nat → Nat → Nat → Nat → List xV → List xV → xH → Option (Option xV × xH)
  | 0, _, _, _, _, _, _ => none
  | f + 1, d, m, pc, L, S, h => match P m pc with
    | none => none
    | some F => match F pc L S h with
      | none => none
      | some (.inl (pc2, L2, S2, h2)) => xq P ml f d m pc2 L2 S2 h2
      | some (.inr (.inl (y, as, pc2, S2))) => match d with
        | 0 => none
        | d2 + 1 => match xq P ml f d2 y 0 (xent (ml y) as) [] h with
          | none => none
          | some (r, h2) => xq P ml f (d2 + 1) m pc2 L (r.toList ++ S2) h2
      | some (.inr (.inr r)) => some (r, h)
theorem xq_mono {P : Nat → Nat → Option xF} {ml : Nat → Nat} : ∀ (f d m pc : Nat) (L S : List xV) (h : xH) (z : Option xV × xH), xq P ml f d m pc L S h = some z → xq P ml (f + 1) d m pc L S h = some z := by
  intro f
  induction f with
  | zero => intro d m pc L S h z hz; simp [xq] at hz
  | succ f ih =>
    intro d m pc L S h z hz
    rw [xq] at hz ⊢
    cases hP : P m pc with
    | none => rw [hP] at hz; cases hz
    | some F =>
      rw [hP] at hz
      dsimp only at hz ⊢
      cases hF : F pc L S h with
      | none => rw [hF] at hz; cases hz
      | some q =>
        rw [hF] at hz
        match q, hF, hz with
        | .inl (pc2, L2, S2, h2), hF, hz => exact ih _ _ _ _ _ _ _ hz
        | .inr (.inr r), hF, hz => exact hz
        | .inr (.inl (y, as, pc2, S2)), hF, hz =>
          cases d with
          | zero => cases hz
          | succ d2 =>
            dsimp only at hz ⊢
            cases hc : xq P ml f d2 y 0 (xent (ml y) as) [] h with
            | none => rw [hc] at hz; cases hz
            | some w =>
              rw [hc] at hz
              rw [ih _ _ _ _ _ _ _ hc]
              obtain ⟨r, h2⟩ := w
              exact ih _ _ _ _ _ _ _ hz
theorem xq_le {P : Nat → Nat → Option xF} {ml : Nat → Nat} {f g d m pc : Nat} {L S : List xV} {h : xH} {z : Option xV × xH} (hfg : f ≤ g) (hz : xq P ml f d m pc L S h = some z) : xq P ml g d m pc L S h = some z := by
  induction g with
  | zero => have : f = 0 := by omega
            subst this; exact hz
  | succ g ih =>
    by_cases hg : f = g + 1
    · rw [← hg]; exact hz
    · exact xq_mono _ _ _ _ _ _ _ _ (ih (by omega))
end
