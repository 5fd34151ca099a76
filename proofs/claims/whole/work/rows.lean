section
-- ===== PART A: goes FIRST, ahead of the names: the tables' words, and 'selects' of the private methods out of them =====
/-- a private method of a class that the tables say can be made, by its rows of tables_1 -/
def lw_okq (q : MethodName × Nat) : Prop := (q.1.cls ≠ "java/lang/invoke/MethodHandle" ∧ q.1.cls ≠ "java/lang/invoke/VarHandle") ∧ Cond.instantiable q.1.cls q.2 ∈ tables_1 ∧ Cond.privateMethod q.1 ∈ tables_1 ∧ Cond.instanceMethod q.1 ∈ tables_1
theorem lw_p0 : lw_okq (⟨"FilmPrinter", "refuse", "(I)I"⟩, 12) := ⟨⟨by decide +kernel, by decide +kernel⟩, List.mem_of_getElem? (i := 21) (by decide +kernel), List.mem_of_getElem? (i := 440) (by decide +kernel), List.mem_of_getElem? (i := 441) (by decide +kernel)⟩
theorem lw_p1 : lw_okq (⟨"FilmPrinter", "accept", "(I)I"⟩, 12) := ⟨⟨by decide +kernel, by decide +kernel⟩, List.mem_of_getElem? (i := 21) (by decide +kernel), List.mem_of_getElem? (i := 462) (by decide +kernel), List.mem_of_getElem? (i := 463) (by decide +kernel)⟩
theorem lw_p2 : lw_okq (⟨"FilmPrinter", "hasShot", "(I)Z"⟩, 12) := ⟨⟨by decide +kernel, by decide +kernel⟩, List.mem_of_getElem? (i := 21) (by decide +kernel), List.mem_of_getElem? (i := 474) (by decide +kernel), List.mem_of_getElem? (i := 475) (by decide +kernel)⟩
theorem lw_p3 : lw_okq (⟨"FilmPrinter$Reader", "split", "(LFilmPrinter$Tape;)V"⟩, 7) := ⟨⟨by decide +kernel, by decide +kernel⟩, List.mem_of_getElem? (i := 176) (by decide +kernel), List.mem_of_getElem? (i := 507) (by decide +kernel), List.mem_of_getElem? (i := 508) (by decide +kernel)⟩
theorem lw_p4 : lw_okq (⟨"FilmPrinter$Reader", "addWord", "(LFilmPrinter$Tape;II)V"⟩, 7) := ⟨⟨by decide +kernel, by decide +kernel⟩, List.mem_of_getElem? (i := 176) (by decide +kernel), List.mem_of_getElem? (i := 514) (by decide +kernel), List.mem_of_getElem? (i := 515) (by decide +kernel)⟩
theorem lw_p5 : lw_okq (⟨"FilmPrinter$Reader", "addToken", "(III)V"⟩, 7) := ⟨⟨by decide +kernel, by decide +kernel⟩, List.mem_of_getElem? (i := 176) (by decide +kernel), List.mem_of_getElem? (i := 579) (by decide +kernel), List.mem_of_getElem? (i := 580) (by decide +kernel)⟩
theorem lw_p6 : lw_okq (⟨"FilmPrinter$Reader", "readClause", "()Z"⟩, 7) := ⟨⟨by decide +kernel, by decide +kernel⟩, List.mem_of_getElem? (i := 176) (by decide +kernel), List.mem_of_getElem? (i := 605) (by decide +kernel), List.mem_of_getElem? (i := 606) (by decide +kernel)⟩
theorem lw_p7 : lw_okq (⟨"FilmPrinter$Reader", "pass", "()V"⟩, 7) := ⟨⟨by decide +kernel, by decide +kernel⟩, List.mem_of_getElem? (i := 176) (by decide +kernel), List.mem_of_getElem? (i := 609) (by decide +kernel), List.mem_of_getElem? (i := 610) (by decide +kernel)⟩
theorem lw_p8 : lw_okq (⟨"FilmPrinter$Reader", "readSum", "(I)Z"⟩, 7) := ⟨⟨by decide +kernel, by decide +kernel⟩, List.mem_of_getElem? (i := 176) (by decide +kernel), List.mem_of_getElem? (i := 613) (by decide +kernel), List.mem_of_getElem? (i := 614) (by decide +kernel)⟩
theorem lw_p9 : lw_okq (⟨"FilmPrinter$Reader", "readTerm", "(I)Z"⟩, 7) := ⟨⟨by decide +kernel, by decide +kernel⟩, List.mem_of_getElem? (i := 176) (by decide +kernel), List.mem_of_getElem? (i := 617) (by decide +kernel), List.mem_of_getElem? (i := 618) (by decide +kernel)⟩
theorem lw_p10 : lw_okq (⟨"FilmPrinter$Reader", "readPart", "(I)Z"⟩, 7) := ⟨⟨by decide +kernel, by decide +kernel⟩, List.mem_of_getElem? (i := 176) (by decide +kernel), List.mem_of_getElem? (i := 621) (by decide +kernel), List.mem_of_getElem? (i := 622) (by decide +kernel)⟩
theorem lw_p11 : lw_okq (⟨"FilmPrinter$Reader", "readTest", "(I)Z"⟩, 7) := ⟨⟨by decide +kernel, by decide +kernel⟩, List.mem_of_getElem? (i := 176) (by decide +kernel), List.mem_of_getElem? (i := 630) (by decide +kernel), List.mem_of_getElem? (i := 631) (by decide +kernel)⟩
theorem lw_p12 : lw_okq (⟨"FilmPrinter$Reader", "readBoth", "(I)Z"⟩, 7) := ⟨⟨by decide +kernel, by decide +kernel⟩, List.mem_of_getElem? (i := 176) (by decide +kernel), List.mem_of_getElem? (i := 634) (by decide +kernel), List.mem_of_getElem? (i := 635) (by decide +kernel)⟩
theorem lw_p13 : lw_okq (⟨"FilmPrinter$Reader", "readPlain", "(I)Z"⟩, 7) := ⟨⟨by decide +kernel, by decide +kernel⟩, List.mem_of_getElem? (i := 176) (by decide +kernel), List.mem_of_getElem? (i := 638) (by decide +kernel), List.mem_of_getElem? (i := 639) (by decide +kernel)⟩
theorem lw_p14 : lw_okq (⟨"FilmPrinter$Reader", "readComparison", "(I)Z"⟩, 7) := ⟨⟨by decide +kernel, by decide +kernel⟩, List.mem_of_getElem? (i := 176) (by decide +kernel), List.mem_of_getElem? (i := 642) (by decide +kernel), List.mem_of_getElem? (i := 643) (by decide +kernel)⟩
theorem lw_p15 : lw_okq (⟨"FilmPrinter$Asker", "holds", "(LFilmPrinter$Law;II)Z"⟩, 6) := ⟨⟨by decide +kernel, by decide +kernel⟩, List.mem_of_getElem? (i := 207) (by decide +kernel), List.mem_of_getElem? (i := 685) (by decide +kernel), List.mem_of_getElem? (i := 686) (by decide +kernel)⟩
def lw_privs_1 : List (MethodName × Nat) := [(⟨"FilmPrinter", "refuse", "(I)I"⟩, 12), (⟨"FilmPrinter", "accept", "(I)I"⟩, 12), (⟨"FilmPrinter", "hasShot", "(I)Z"⟩, 12), (⟨"FilmPrinter$Reader", "split", "(LFilmPrinter$Tape;)V"⟩, 7), (⟨"FilmPrinter$Reader", "addWord", "(LFilmPrinter$Tape;II)V"⟩, 7), (⟨"FilmPrinter$Reader", "addToken", "(III)V"⟩, 7), (⟨"FilmPrinter$Reader", "readClause", "()Z"⟩, 7), (⟨"FilmPrinter$Reader", "pass", "()V"⟩, 7), (⟨"FilmPrinter$Reader", "readSum", "(I)Z"⟩, 7), (⟨"FilmPrinter$Reader", "readTerm", "(I)Z"⟩, 7), (⟨"FilmPrinter$Reader", "readPart", "(I)Z"⟩, 7), (⟨"FilmPrinter$Reader", "readTest", "(I)Z"⟩, 7), (⟨"FilmPrinter$Reader", "readBoth", "(I)Z"⟩, 7), (⟨"FilmPrinter$Reader", "readPlain", "(I)Z"⟩, 7), (⟨"FilmPrinter$Reader", "readComparison", "(I)Z"⟩, 7), (⟨"FilmPrinter$Asker", "holds", "(LFilmPrinter$Law;II)Z"⟩, 6)]
theorem lw_r1 : ∀ q ∈ lw_privs_1, lw_okq q := List.forall_mem_cons.mpr ⟨lw_p0, List.forall_mem_cons.mpr ⟨lw_p1, List.forall_mem_cons.mpr ⟨lw_p2, List.forall_mem_cons.mpr ⟨lw_p3, List.forall_mem_cons.mpr ⟨lw_p4, List.forall_mem_cons.mpr ⟨lw_p5, List.forall_mem_cons.mpr ⟨lw_p6, List.forall_mem_cons.mpr ⟨lw_p7, List.forall_mem_cons.mpr ⟨lw_p8, List.forall_mem_cons.mpr ⟨lw_p9, List.forall_mem_cons.mpr ⟨lw_p10, List.forall_mem_cons.mpr ⟨lw_p11, List.forall_mem_cons.mpr ⟨lw_p12, List.forall_mem_cons.mpr ⟨lw_p13, List.forall_mem_cons.mpr ⟨lw_p14, List.forall_mem_cons.mpr ⟨lw_p15, fun _ h => absurd h List.not_mem_nil⟩⟩⟩⟩⟩⟩⟩⟩⟩⟩⟩⟩⟩⟩⟩⟩
theorem lw_p16 : lw_okq (⟨"FilmPrinter$Asker", "run", "(II)Z"⟩, 6) := ⟨⟨by decide +kernel, by decide +kernel⟩, List.mem_of_getElem? (i := 207) (by decide +kernel), List.mem_of_getElem? (i := 689) (by decide +kernel), List.mem_of_getElem? (i := 690) (by decide +kernel)⟩
theorem lw_p17 : lw_okq (⟨"FilmPrinter$Asker", "push", "(I)Z"⟩, 6) := ⟨⟨by decide +kernel, by decide +kernel⟩, List.mem_of_getElem? (i := 207) (by decide +kernel), List.mem_of_getElem? (i := 693) (by decide +kernel), List.mem_of_getElem? (i := 694) (by decide +kernel)⟩
theorem lw_p18 : lw_okq (⟨"FilmPrinter$Asker", "reckon", "(IJJ)Z"⟩, 6) := ⟨⟨by decide +kernel, by decide +kernel⟩, List.mem_of_getElem? (i := 207) (by decide +kernel), List.mem_of_getElem? (i := 697) (by decide +kernel), List.mem_of_getElem? (i := 698) (by decide +kernel)⟩
theorem lw_p19 : lw_okq (⟨"FilmPrinter$Edition", "addPlace", "(II)V"⟩, 6) := ⟨⟨by decide +kernel, by decide +kernel⟩, List.mem_of_getElem? (i := 238) (by decide +kernel), List.mem_of_getElem? (i := 713) (by decide +kernel), List.mem_of_getElem? (i := 714) (by decide +kernel)⟩
theorem lw_p20 : lw_okq (⟨"FilmPrinter", "hasPlace", "(II)Z"⟩, 12) := ⟨⟨by decide +kernel, by decide +kernel⟩, List.mem_of_getElem? (i := 21) (by decide +kernel), List.mem_of_getElem? (i := 722) (by decide +kernel), List.mem_of_getElem? (i := 723) (by decide +kernel)⟩
theorem lw_p21 : lw_okq (⟨"FilmPrinter", "isExplained", "(I)Z"⟩, 12) := ⟨⟨by decide +kernel, by decide +kernel⟩, List.mem_of_getElem? (i := 21) (by decide +kernel), List.mem_of_getElem? (i := 759) (by decide +kernel), List.mem_of_getElem? (i := 760) (by decide +kernel)⟩
theorem lw_p22 : lw_okq (⟨"FilmPrinter$Explainer", "countApart", "(LFilmPrinter$State;LFilmPrinter$Edition;)V"⟩, 6) := ⟨⟨by decide +kernel, by decide +kernel⟩, List.mem_of_getElem? (i := 274) (by decide +kernel), List.mem_of_getElem? (i := 767) (by decide +kernel), List.mem_of_getElem? (i := 768) (by decide +kernel)⟩
theorem lw_p23 : lw_okq (⟨"FilmPrinter$Explainer", "bestFail", "(LFilmPrinter$Edition;III)I"⟩, 6) := ⟨⟨by decide +kernel, by decide +kernel⟩, List.mem_of_getElem? (i := 274) (by decide +kernel), List.mem_of_getElem? (i := 777) (by decide +kernel), List.mem_of_getElem? (i := 778) (by decide +kernel)⟩
theorem lw_p24 : lw_okq (⟨"FilmPrinter$Explainer", "leastBy", "(LFilmPrinter$Edition;IIII)I"⟩, 6) := ⟨⟨by decide +kernel, by decide +kernel⟩, List.mem_of_getElem? (i := 274) (by decide +kernel), List.mem_of_getElem? (i := 781) (by decide +kernel), List.mem_of_getElem? (i := 782) (by decide +kernel)⟩
theorem lw_p25 : lw_okq (⟨"FilmPrinter$Explainer", "follow", "(LFilmPrinter$Edition;I)V"⟩, 6) := ⟨⟨by decide +kernel, by decide +kernel⟩, List.mem_of_getElem? (i := 274) (by decide +kernel), List.mem_of_getElem? (i := 786) (by decide +kernel), List.mem_of_getElem? (i := 787) (by decide +kernel)⟩
theorem lw_p26 : lw_okq (⟨"FilmPrinter$Matcher", "weigh", "(LFilmPrinter$State;III)V"⟩, 6) := ⟨⟨by decide +kernel, by decide +kernel⟩, List.mem_of_getElem? (i := 330) (by decide +kernel), List.mem_of_getElem? (i := 844) (by decide +kernel), List.mem_of_getElem? (i := 845) (by decide +kernel)⟩
theorem lw_p27 : lw_okq (⟨"FilmPrinter$Matcher", "choose", "(LFilmPrinter$State;II)V"⟩, 6) := ⟨⟨by decide +kernel, by decide +kernel⟩, List.mem_of_getElem? (i := 330) (by decide +kernel), List.mem_of_getElem? (i := 850) (by decide +kernel), List.mem_of_getElem? (i := 851) (by decide +kernel)⟩
theorem lw_p28 : lw_okq (⟨"FilmPrinter", "makeOne", "()V"⟩, 12) := ⟨⟨by decide +kernel, by decide +kernel⟩, List.mem_of_getElem? (i := 21) (by decide +kernel), List.mem_of_getElem? (i := 862) (by decide +kernel), List.mem_of_getElem? (i := 863) (by decide +kernel)⟩
theorem lw_p29 : lw_okq (⟨"FilmPrinter$Maker", "follow", "(LFilmPrinter$State;LFilmPrinter$Matcher;I)V"⟩, 8) := ⟨⟨by decide +kernel, by decide +kernel⟩, List.mem_of_getElem? (i := 359) (by decide +kernel), List.mem_of_getElem? (i := 877) (by decide +kernel), List.mem_of_getElem? (i := 878) (by decide +kernel)⟩
theorem lw_p30 : lw_okq (⟨"FilmPrinter$Maker", "better", "(LFilmPrinter$Matcher;III)I"⟩, 8) := ⟨⟨by decide +kernel, by decide +kernel⟩, List.mem_of_getElem? (i := 359) (by decide +kernel), List.mem_of_getElem? (i := 881) (by decide +kernel), List.mem_of_getElem? (i := 882) (by decide +kernel)⟩
theorem lw_p31 : lw_okq (⟨"FilmPrinter$Maker", "countMissing", "(LFilmPrinter$State;)V"⟩, 8) := ⟨⟨by decide +kernel, by decide +kernel⟩, List.mem_of_getElem? (i := 359) (by decide +kernel), List.mem_of_getElem? (i := 885) (by decide +kernel), List.mem_of_getElem? (i := 886) (by decide +kernel)⟩
def lw_privs_2 : List (MethodName × Nat) := [(⟨"FilmPrinter$Asker", "run", "(II)Z"⟩, 6), (⟨"FilmPrinter$Asker", "push", "(I)Z"⟩, 6), (⟨"FilmPrinter$Asker", "reckon", "(IJJ)Z"⟩, 6), (⟨"FilmPrinter$Edition", "addPlace", "(II)V"⟩, 6), (⟨"FilmPrinter", "hasPlace", "(II)Z"⟩, 12), (⟨"FilmPrinter", "isExplained", "(I)Z"⟩, 12), (⟨"FilmPrinter$Explainer", "countApart", "(LFilmPrinter$State;LFilmPrinter$Edition;)V"⟩, 6), (⟨"FilmPrinter$Explainer", "bestFail", "(LFilmPrinter$Edition;III)I"⟩, 6), (⟨"FilmPrinter$Explainer", "leastBy", "(LFilmPrinter$Edition;IIII)I"⟩, 6), (⟨"FilmPrinter$Explainer", "follow", "(LFilmPrinter$Edition;I)V"⟩, 6), (⟨"FilmPrinter$Matcher", "weigh", "(LFilmPrinter$State;III)V"⟩, 6), (⟨"FilmPrinter$Matcher", "choose", "(LFilmPrinter$State;II)V"⟩, 6), (⟨"FilmPrinter", "makeOne", "()V"⟩, 12), (⟨"FilmPrinter$Maker", "follow", "(LFilmPrinter$State;LFilmPrinter$Matcher;I)V"⟩, 8), (⟨"FilmPrinter$Maker", "better", "(LFilmPrinter$Matcher;III)I"⟩, 8), (⟨"FilmPrinter$Maker", "countMissing", "(LFilmPrinter$State;)V"⟩, 8)]
theorem lw_r2 : ∀ q ∈ lw_privs_2, lw_okq q := List.forall_mem_cons.mpr ⟨lw_p16, List.forall_mem_cons.mpr ⟨lw_p17, List.forall_mem_cons.mpr ⟨lw_p18, List.forall_mem_cons.mpr ⟨lw_p19, List.forall_mem_cons.mpr ⟨lw_p20, List.forall_mem_cons.mpr ⟨lw_p21, List.forall_mem_cons.mpr ⟨lw_p22, List.forall_mem_cons.mpr ⟨lw_p23, List.forall_mem_cons.mpr ⟨lw_p24, List.forall_mem_cons.mpr ⟨lw_p25, List.forall_mem_cons.mpr ⟨lw_p26, List.forall_mem_cons.mpr ⟨lw_p27, List.forall_mem_cons.mpr ⟨lw_p28, List.forall_mem_cons.mpr ⟨lw_p29, List.forall_mem_cons.mpr ⟨lw_p30, List.forall_mem_cons.mpr ⟨lw_p31, fun _ h => absurd h List.not_mem_nil⟩⟩⟩⟩⟩⟩⟩⟩⟩⟩⟩⟩⟩⟩⟩⟩
theorem lw_p32 : lw_okq (⟨"FilmPrinter$Maker", "countOlder", "(LFilmPrinter$State;LFilmPrinter$Matcher;)V"⟩, 8) := ⟨⟨by decide +kernel, by decide +kernel⟩, List.mem_of_getElem? (i := 359) (by decide +kernel), List.mem_of_getElem? (i := 890) (by decide +kernel), List.mem_of_getElem? (i := 891) (by decide +kernel)⟩
theorem lw_p33 : lw_okq (⟨"FilmPrinterModel", "tell", "(I)I"⟩, 46) := ⟨⟨by decide +kernel, by decide +kernel⟩, List.mem_of_getElem? (i := 940) (by decide +kernel), List.mem_of_getElem? (i := 1094) (by decide +kernel), List.mem_of_getElem? (i := 1095) (by decide +kernel)⟩
theorem lw_p34 : lw_okq (⟨"FilmPrinterModel", "forget", "()V"⟩, 46) := ⟨⟨by decide +kernel, by decide +kernel⟩, List.mem_of_getElem? (i := 940) (by decide +kernel), List.mem_of_getElem? (i := 1102) (by decide +kernel), List.mem_of_getElem? (i := 1103) (by decide +kernel)⟩
theorem lw_p35 : lw_okq (⟨"FilmPrinterModel", "isShot", "(I)Z"⟩, 46) := ⟨⟨by decide +kernel, by decide +kernel⟩, List.mem_of_getElem? (i := 940) (by decide +kernel), List.mem_of_getElem? (i := 1123) (by decide +kernel), List.mem_of_getElem? (i := 1124) (by decide +kernel)⟩
theorem lw_p36 : lw_okq (⟨"FilmPrinterModel", "firstOf", "(I)I"⟩, 46) := ⟨⟨by decide +kernel, by decide +kernel⟩, List.mem_of_getElem? (i := 940) (by decide +kernel), List.mem_of_getElem? (i := 1128) (by decide +kernel), List.mem_of_getElem? (i := 1129) (by decide +kernel)⟩
theorem lw_p37 : lw_okq (⟨"FilmPrinterModel", "four", "(I)V"⟩, 46) := ⟨⟨by decide +kernel, by decide +kernel⟩, List.mem_of_getElem? (i := 940) (by decide +kernel), List.mem_of_getElem? (i := 1146) (by decide +kernel), List.mem_of_getElem? (i := 1147) (by decide +kernel)⟩
theorem lw_p38 : lw_okq (⟨"FilmPrinterModel", "begin", "()V"⟩, 46) := ⟨⟨by decide +kernel, by decide +kernel⟩, List.mem_of_getElem? (i := 940) (by decide +kernel), List.mem_of_getElem? (i := 1162) (by decide +kernel), List.mem_of_getElem? (i := 1163) (by decide +kernel)⟩
theorem lw_p39 : lw_okq (⟨"FilmPrinterModel", "next", "()V"⟩, 46) := ⟨⟨by decide +kernel, by decide +kernel⟩, List.mem_of_getElem? (i := 940) (by decide +kernel), List.mem_of_getElem? (i := 1166) (by decide +kernel), List.mem_of_getElem? (i := 1167) (by decide +kernel)⟩
theorem lw_p40 : lw_okq (⟨"FilmPrinterModel", "readClause", "()V"⟩, 46) := ⟨⟨by decide +kernel, by decide +kernel⟩, List.mem_of_getElem? (i := 940) (by decide +kernel), List.mem_of_getElem? (i := 1182) (by decide +kernel), List.mem_of_getElem? (i := 1183) (by decide +kernel)⟩
theorem lw_p41 : lw_okq (⟨"FilmPrinterModel", "headAt", "()I"⟩, 46) := ⟨⟨by decide +kernel, by decide +kernel⟩, List.mem_of_getElem? (i := 940) (by decide +kernel), List.mem_of_getElem? (i := 1186) (by decide +kernel), List.mem_of_getElem? (i := 1187) (by decide +kernel)⟩
theorem lw_p42 : lw_okq (⟨"FilmPrinterModel", "isWord", "(J)Z"⟩, 46) := ⟨⟨by decide +kernel, by decide +kernel⟩, List.mem_of_getElem? (i := 940) (by decide +kernel), List.mem_of_getElem? (i := 1191) (by decide +kernel), List.mem_of_getElem? (i := 1192) (by decide +kernel)⟩
theorem lw_p43 : lw_okq (⟨"FilmPrinterModel", "must", "(Z)V"⟩, 46) := ⟨⟨by decide +kernel, by decide +kernel⟩, List.mem_of_getElem? (i := 940) (by decide +kernel), List.mem_of_getElem? (i := 1197) (by decide +kernel), List.mem_of_getElem? (i := 1198) (by decide +kernel)⟩
theorem lw_p44 : lw_okq (⟨"FilmPrinterModel", "readExpression", "(Z)V"⟩, 46) := ⟨⟨by decide +kernel, by decide +kernel⟩, List.mem_of_getElem? (i := 940) (by decide +kernel), List.mem_of_getElem? (i := 1201) (by decide +kernel), List.mem_of_getElem? (i := 1202) (by decide +kernel)⟩
theorem lw_p45 : lw_okq (⟨"FilmPrinterModel", "readPlain", "()I"⟩, 46) := ⟨⟨by decide +kernel, by decide +kernel⟩, List.mem_of_getElem? (i := 940) (by decide +kernel), List.mem_of_getElem? (i := 1205) (by decide +kernel), List.mem_of_getElem? (i := 1206) (by decide +kernel)⟩
theorem lw_p46 : lw_okq (⟨"FilmPrinterModel", "push", "(II)V"⟩, 46) := ⟨⟨by decide +kernel, by decide +kernel⟩, List.mem_of_getElem? (i := 940) (by decide +kernel), List.mem_of_getElem? (i := 1210) (by decide +kernel), List.mem_of_getElem? (i := 1211) (by decide +kernel)⟩
theorem lw_p47 : lw_okq (⟨"FilmPrinterModel", "isSign", "(I)Z"⟩, 46) := ⟨⟨by decide +kernel, by decide +kernel⟩, List.mem_of_getElem? (i := 940) (by decide +kernel), List.mem_of_getElem? (i := 1214) (by decide +kernel), List.mem_of_getElem? (i := 1215) (by decide +kernel)⟩
def lw_privs_3 : List (MethodName × Nat) := [(⟨"FilmPrinter$Maker", "countOlder", "(LFilmPrinter$State;LFilmPrinter$Matcher;)V"⟩, 8), (⟨"FilmPrinterModel", "tell", "(I)I"⟩, 46), (⟨"FilmPrinterModel", "forget", "()V"⟩, 46), (⟨"FilmPrinterModel", "isShot", "(I)Z"⟩, 46), (⟨"FilmPrinterModel", "firstOf", "(I)I"⟩, 46), (⟨"FilmPrinterModel", "four", "(I)V"⟩, 46), (⟨"FilmPrinterModel", "begin", "()V"⟩, 46), (⟨"FilmPrinterModel", "next", "()V"⟩, 46), (⟨"FilmPrinterModel", "readClause", "()V"⟩, 46), (⟨"FilmPrinterModel", "headAt", "()I"⟩, 46), (⟨"FilmPrinterModel", "isWord", "(J)Z"⟩, 46), (⟨"FilmPrinterModel", "must", "(Z)V"⟩, 46), (⟨"FilmPrinterModel", "readExpression", "(Z)V"⟩, 46), (⟨"FilmPrinterModel", "readPlain", "()I"⟩, 46), (⟨"FilmPrinterModel", "push", "(II)V"⟩, 46), (⟨"FilmPrinterModel", "isSign", "(I)Z"⟩, 46)]
theorem lw_r3 : ∀ q ∈ lw_privs_3, lw_okq q := List.forall_mem_cons.mpr ⟨lw_p32, List.forall_mem_cons.mpr ⟨lw_p33, List.forall_mem_cons.mpr ⟨lw_p34, List.forall_mem_cons.mpr ⟨lw_p35, List.forall_mem_cons.mpr ⟨lw_p36, List.forall_mem_cons.mpr ⟨lw_p37, List.forall_mem_cons.mpr ⟨lw_p38, List.forall_mem_cons.mpr ⟨lw_p39, List.forall_mem_cons.mpr ⟨lw_p40, List.forall_mem_cons.mpr ⟨lw_p41, List.forall_mem_cons.mpr ⟨lw_p42, List.forall_mem_cons.mpr ⟨lw_p43, List.forall_mem_cons.mpr ⟨lw_p44, List.forall_mem_cons.mpr ⟨lw_p45, List.forall_mem_cons.mpr ⟨lw_p46, List.forall_mem_cons.mpr ⟨lw_p47, fun _ h => absurd h List.not_mem_nil⟩⟩⟩⟩⟩⟩⟩⟩⟩⟩⟩⟩⟩⟩⟩⟩
theorem lw_p48 : lw_okq (⟨"FilmPrinterModel", "openBracket", "(I)V"⟩, 46) := ⟨⟨by decide +kernel, by decide +kernel⟩, List.mem_of_getElem? (i := 940) (by decide +kernel), List.mem_of_getElem? (i := 1218) (by decide +kernel), List.mem_of_getElem? (i := 1219) (by decide +kernel)⟩
theorem lw_p49 : lw_okq (⟨"FilmPrinterModel", "readPart", "()I"⟩, 46) := ⟨⟨by decide +kernel, by decide +kernel⟩, List.mem_of_getElem? (i := 940) (by decide +kernel), List.mem_of_getElem? (i := 1222) (by decide +kernel), List.mem_of_getElem? (i := 1223) (by decide +kernel)⟩
theorem lw_p50 : lw_okq (⟨"FilmPrinterModel", "partAt", "()I"⟩, 46) := ⟨⟨by decide +kernel, by decide +kernel⟩, List.mem_of_getElem? (i := 940) (by decide +kernel), List.mem_of_getElem? (i := 1226) (by decide +kernel), List.mem_of_getElem? (i := 1227) (by decide +kernel)⟩
theorem lw_p51 : lw_okq (⟨"FilmPrinterModel", "leaf", "(ZII)V"⟩, 46) := ⟨⟨by decide +kernel, by decide +kernel⟩, List.mem_of_getElem? (i := 940) (by decide +kernel), List.mem_of_getElem? (i := 1238) (by decide +kernel), List.mem_of_getElem? (i := 1239) (by decide +kernel)⟩
theorem lw_p52 : lw_okq (⟨"FilmPrinterModel", "emit", "(II)V"⟩, 46) := ⟨⟨by decide +kernel, by decide +kernel⟩, List.mem_of_getElem? (i := 940) (by decide +kernel), List.mem_of_getElem? (i := 1242) (by decide +kernel), List.mem_of_getElem? (i := 1243) (by decide +kernel)⟩
theorem lw_p53 : lw_okq (⟨"FilmPrinterModel", "behindSum", "(Z)I"⟩, 46) := ⟨⟨by decide +kernel, by decide +kernel⟩, List.mem_of_getElem? (i := 940) (by decide +kernel), List.mem_of_getElem? (i := 1246) (by decide +kernel), List.mem_of_getElem? (i := 1247) (by decide +kernel)⟩
theorem lw_p54 : lw_okq (⟨"FilmPrinterModel", "settle", "(I)V"⟩, 46) := ⟨⟨by decide +kernel, by decide +kernel⟩, List.mem_of_getElem? (i := 940) (by decide +kernel), List.mem_of_getElem? (i := 1253) (by decide +kernel), List.mem_of_getElem? (i := 1254) (by decide +kernel)⟩
theorem lw_p55 : lw_okq (⟨"FilmPrinterModel", "inner", "()I"⟩, 46) := ⟨⟨by decide +kernel, by decide +kernel⟩, List.mem_of_getElem? (i := 940) (by decide +kernel), List.mem_of_getElem? (i := 1257) (by decide +kernel), List.mem_of_getElem? (i := 1258) (by decide +kernel)⟩
theorem lw_p56 : lw_okq (⟨"FilmPrinterModel", "isCompared", "()Z"⟩, 46) := ⟨⟨by decide +kernel, by decide +kernel⟩, List.mem_of_getElem? (i := 940) (by decide +kernel), List.mem_of_getElem? (i := 1261) (by decide +kernel), List.mem_of_getElem? (i := 1262) (by decide +kernel)⟩
theorem lw_p57 : lw_okq (⟨"FilmPrinterModel", "behindTest", "()I"⟩, 46) := ⟨⟨by decide +kernel, by decide +kernel⟩, List.mem_of_getElem? (i := 940) (by decide +kernel), List.mem_of_getElem? (i := 1269) (by decide +kernel), List.mem_of_getElem? (i := 1270) (by decide +kernel)⟩
theorem lw_p58 : lw_okq (⟨"FilmPrinterModel", "lightOf", "(II)I"⟩, 46) := ⟨⟨by decide +kernel, by decide +kernel⟩, List.mem_of_getElem? (i := 940) (by decide +kernel), List.mem_of_getElem? (i := 1284) (by decide +kernel), List.mem_of_getElem? (i := 1285) (by decide +kernel)⟩
theorem lw_p59 : lw_okq (⟨"FilmPrinterModel", "ask", "(II)V"⟩, 46) := ⟨⟨by decide +kernel, by decide +kernel⟩, List.mem_of_getElem? (i := 940) (by decide +kernel), List.mem_of_getElem? (i := 1288) (by decide +kernel), List.mem_of_getElem? (i := 1289) (by decide +kernel)⟩
theorem lw_p60 : lw_okq (⟨"FilmPrinterModel", "find", "(IIII)I"⟩, 46) := ⟨⟨by decide +kernel, by decide +kernel⟩, List.mem_of_getElem? (i := 940) (by decide +kernel), List.mem_of_getElem? (i := 1292) (by decide +kernel), List.mem_of_getElem? (i := 1293) (by decide +kernel)⟩
theorem lw_p61 : lw_okq (⟨"FilmPrinterModel", "isSo", "(I)Z"⟩, 46) := ⟨⟨by decide +kernel, by decide +kernel⟩, List.mem_of_getElem? (i := 940) (by decide +kernel), List.mem_of_getElem? (i := 1296) (by decide +kernel), List.mem_of_getElem? (i := 1297) (by decide +kernel)⟩
theorem lw_p62 : lw_okq (⟨"FilmPrinterModel", "reckonAll", "(II)V"⟩, 46) := ⟨⟨by decide +kernel, by decide +kernel⟩, List.mem_of_getElem? (i := 940) (by decide +kernel), List.mem_of_getElem? (i := 1300) (by decide +kernel), List.mem_of_getElem? (i := 1301) (by decide +kernel)⟩
theorem lw_p63 : lw_okq (⟨"FilmPrinterModel", "reckon", "(IJJ)J"⟩, 46) := ⟨⟨by decide +kernel, by decide +kernel⟩, List.mem_of_getElem? (i := 940) (by decide +kernel), List.mem_of_getElem? (i := 1304) (by decide +kernel), List.mem_of_getElem? (i := 1305) (by decide +kernel)⟩
def lw_privs_4 : List (MethodName × Nat) := [(⟨"FilmPrinterModel", "openBracket", "(I)V"⟩, 46), (⟨"FilmPrinterModel", "readPart", "()I"⟩, 46), (⟨"FilmPrinterModel", "partAt", "()I"⟩, 46), (⟨"FilmPrinterModel", "leaf", "(ZII)V"⟩, 46), (⟨"FilmPrinterModel", "emit", "(II)V"⟩, 46), (⟨"FilmPrinterModel", "behindSum", "(Z)I"⟩, 46), (⟨"FilmPrinterModel", "settle", "(I)V"⟩, 46), (⟨"FilmPrinterModel", "inner", "()I"⟩, 46), (⟨"FilmPrinterModel", "isCompared", "()Z"⟩, 46), (⟨"FilmPrinterModel", "behindTest", "()I"⟩, 46), (⟨"FilmPrinterModel", "lightOf", "(II)I"⟩, 46), (⟨"FilmPrinterModel", "ask", "(II)V"⟩, 46), (⟨"FilmPrinterModel", "find", "(IIII)I"⟩, 46), (⟨"FilmPrinterModel", "isSo", "(I)Z"⟩, 46), (⟨"FilmPrinterModel", "reckonAll", "(II)V"⟩, 46), (⟨"FilmPrinterModel", "reckon", "(IJJ)J"⟩, 46)]
theorem lw_r4 : ∀ q ∈ lw_privs_4, lw_okq q := List.forall_mem_cons.mpr ⟨lw_p48, List.forall_mem_cons.mpr ⟨lw_p49, List.forall_mem_cons.mpr ⟨lw_p50, List.forall_mem_cons.mpr ⟨lw_p51, List.forall_mem_cons.mpr ⟨lw_p52, List.forall_mem_cons.mpr ⟨lw_p53, List.forall_mem_cons.mpr ⟨lw_p54, List.forall_mem_cons.mpr ⟨lw_p55, List.forall_mem_cons.mpr ⟨lw_p56, List.forall_mem_cons.mpr ⟨lw_p57, List.forall_mem_cons.mpr ⟨lw_p58, List.forall_mem_cons.mpr ⟨lw_p59, List.forall_mem_cons.mpr ⟨lw_p60, List.forall_mem_cons.mpr ⟨lw_p61, List.forall_mem_cons.mpr ⟨lw_p62, List.forall_mem_cons.mpr ⟨lw_p63, fun _ h => absurd h List.not_mem_nil⟩⟩⟩⟩⟩⟩⟩⟩⟩⟩⟩⟩⟩⟩⟩⟩
theorem lw_p64 : lw_okq (⟨"FilmPrinterModel", "titleOf", "(II)I"⟩, 46) := ⟨⟨by decide +kernel, by decide +kernel⟩, List.mem_of_getElem? (i := 940) (by decide +kernel), List.mem_of_getElem? (i := 1310) (by decide +kernel), List.mem_of_getElem? (i := 1311) (by decide +kernel)⟩
theorem lw_p65 : lw_okq (⟨"FilmPrinterModel", "cutOf", "(II)I"⟩, 46) := ⟨⟨by decide +kernel, by decide +kernel⟩, List.mem_of_getElem? (i := 940) (by decide +kernel), List.mem_of_getElem? (i := 1314) (by decide +kernel), List.mem_of_getElem? (i := 1315) (by decide +kernel)⟩
theorem lw_p66 : lw_okq (⟨"FilmPrinterModel", "findEdition", "(I)V"⟩, 46) := ⟨⟨by decide +kernel, by decide +kernel⟩, List.mem_of_getElem? (i := 940) (by decide +kernel), List.mem_of_getElem? (i := 1322) (by decide +kernel), List.mem_of_getElem? (i := 1323) (by decide +kernel)⟩
theorem lw_p67 : lw_okq (⟨"FilmPrinterModel", "moved", "(II)I"⟩, 46) := ⟨⟨by decide +kernel, by decide +kernel⟩, List.mem_of_getElem? (i := 940) (by decide +kernel), List.mem_of_getElem? (i := 1339) (by decide +kernel), List.mem_of_getElem? (i := 1340) (by decide +kernel)⟩
theorem lw_p68 : lw_okq (⟨"FilmPrinterModel", "printOf", "(II)I"⟩, 46) := ⟨⟨by decide +kernel, by decide +kernel⟩, List.mem_of_getElem? (i := 940) (by decide +kernel), List.mem_of_getElem? (i := 1343) (by decide +kernel), List.mem_of_getElem? (i := 1344) (by decide +kernel)⟩
theorem lw_p69 : lw_okq (⟨"FilmPrinterModel", "greyOf", "(I)I"⟩, 46) := ⟨⟨by decide +kernel, by decide +kernel⟩, List.mem_of_getElem? (i := 940) (by decide +kernel), List.mem_of_getElem? (i := 1347) (by decide +kernel), List.mem_of_getElem? (i := 1348) (by decide +kernel)⟩
theorem lw_p70 : lw_okq (⟨"FilmPrinterModel", "explains", "(I)Z"⟩, 46) := ⟨⟨by decide +kernel, by decide +kernel⟩, List.mem_of_getElem? (i := 940) (by decide +kernel), List.mem_of_getElem? (i := 1366) (by decide +kernel), List.mem_of_getElem? (i := 1367) (by decide +kernel)⟩
theorem lw_p71 : lw_okq (⟨"FilmPrinterModel", "goOn", "(II)V"⟩, 46) := ⟨⟨by decide +kernel, by decide +kernel⟩, List.mem_of_getElem? (i := 940) (by decide +kernel), List.mem_of_getElem? (i := 1370) (by decide +kernel), List.mem_of_getElem? (i := 1371) (by decide +kernel)⟩
theorem lw_p72 : lw_okq (⟨"FilmPrinterModel", "apart", "(II)I"⟩, 46) := ⟨⟨by decide +kernel, by decide +kernel⟩, List.mem_of_getElem? (i := 940) (by decide +kernel), List.mem_of_getElem? (i := 1374) (by decide +kernel), List.mem_of_getElem? (i := 1375) (by decide +kernel)⟩
theorem lw_p73 : lw_okq (⟨"FilmPrinterModel", "hear", "(I)I"⟩, 46) := ⟨⟨by decide +kernel, by decide +kernel⟩, List.mem_of_getElem? (i := 940) (by decide +kernel), List.mem_of_getElem? (i := 1390) (by decide +kernel), List.mem_of_getElem? (i := 1391) (by decide +kernel)⟩
theorem lw_p74 : lw_okq (⟨"FilmPrinterModel", "frames", "()I"⟩, 46) := ⟨⟨by decide +kernel, by decide +kernel⟩, List.mem_of_getElem? (i := 940) (by decide +kernel), List.mem_of_getElem? (i := 1394) (by decide +kernel), List.mem_of_getElem? (i := 1395) (by decide +kernel)⟩
theorem lw_p75 : lw_okq (⟨"FilmPrinterModel", "shotWith", "(I)I"⟩, 46) := ⟨⟨by decide +kernel, by decide +kernel⟩, List.mem_of_getElem? (i := 940) (by decide +kernel), List.mem_of_getElem? (i := 1398) (by decide +kernel), List.mem_of_getElem? (i := 1399) (by decide +kernel)⟩
theorem lw_p76 : lw_okq (⟨"FilmPrinterModel", "soundOf", "(I)I"⟩, 46) := ⟨⟨by decide +kernel, by decide +kernel⟩, List.mem_of_getElem? (i := 940) (by decide +kernel), List.mem_of_getElem? (i := 1406) (by decide +kernel), List.mem_of_getElem? (i := 1407) (by decide +kernel)⟩
theorem lw_p77 : lw_okq (⟨"FilmPrinterModel", "findMatches", "(I)V"⟩, 46) := ⟨⟨by decide +kernel, by decide +kernel⟩, List.mem_of_getElem? (i := 940) (by decide +kernel), List.mem_of_getElem? (i := 1421) (by decide +kernel), List.mem_of_getElem? (i := 1422) (by decide +kernel)⟩
theorem lw_p78 : lw_okq (⟨"FilmPrinterModel", "findGreys", "()V"⟩, 46) := ⟨⟨by decide +kernel, by decide +kernel⟩, List.mem_of_getElem? (i := 940) (by decide +kernel), List.mem_of_getElem? (i := 1425) (by decide +kernel), List.mem_of_getElem? (i := 1426) (by decide +kernel)⟩
theorem lw_p79 : lw_okq (⟨"FilmPrinterModel", "isAlike", "(III)Z"⟩, 46) := ⟨⟨by decide +kernel, by decide +kernel⟩, List.mem_of_getElem? (i := 940) (by decide +kernel), List.mem_of_getElem? (i := 1429) (by decide +kernel), List.mem_of_getElem? (i := 1430) (by decide +kernel)⟩
def lw_privs_5 : List (MethodName × Nat) := [(⟨"FilmPrinterModel", "titleOf", "(II)I"⟩, 46), (⟨"FilmPrinterModel", "cutOf", "(II)I"⟩, 46), (⟨"FilmPrinterModel", "findEdition", "(I)V"⟩, 46), (⟨"FilmPrinterModel", "moved", "(II)I"⟩, 46), (⟨"FilmPrinterModel", "printOf", "(II)I"⟩, 46), (⟨"FilmPrinterModel", "greyOf", "(I)I"⟩, 46), (⟨"FilmPrinterModel", "explains", "(I)Z"⟩, 46), (⟨"FilmPrinterModel", "goOn", "(II)V"⟩, 46), (⟨"FilmPrinterModel", "apart", "(II)I"⟩, 46), (⟨"FilmPrinterModel", "hear", "(I)I"⟩, 46), (⟨"FilmPrinterModel", "frames", "()I"⟩, 46), (⟨"FilmPrinterModel", "shotWith", "(I)I"⟩, 46), (⟨"FilmPrinterModel", "soundOf", "(I)I"⟩, 46), (⟨"FilmPrinterModel", "findMatches", "(I)V"⟩, 46), (⟨"FilmPrinterModel", "findGreys", "()V"⟩, 46), (⟨"FilmPrinterModel", "isAlike", "(III)Z"⟩, 46)]
theorem lw_r5 : ∀ q ∈ lw_privs_5, lw_okq q := List.forall_mem_cons.mpr ⟨lw_p64, List.forall_mem_cons.mpr ⟨lw_p65, List.forall_mem_cons.mpr ⟨lw_p66, List.forall_mem_cons.mpr ⟨lw_p67, List.forall_mem_cons.mpr ⟨lw_p68, List.forall_mem_cons.mpr ⟨lw_p69, List.forall_mem_cons.mpr ⟨lw_p70, List.forall_mem_cons.mpr ⟨lw_p71, List.forall_mem_cons.mpr ⟨lw_p72, List.forall_mem_cons.mpr ⟨lw_p73, List.forall_mem_cons.mpr ⟨lw_p74, List.forall_mem_cons.mpr ⟨lw_p75, List.forall_mem_cons.mpr ⟨lw_p76, List.forall_mem_cons.mpr ⟨lw_p77, List.forall_mem_cons.mpr ⟨lw_p78, List.forall_mem_cons.mpr ⟨lw_p79, fun _ h => absurd h List.not_mem_nil⟩⟩⟩⟩⟩⟩⟩⟩⟩⟩⟩⟩⟩⟩⟩⟩
theorem lw_p80 : lw_okq (⟨"FilmPrinterModel", "findOne", "()V"⟩, 46) := ⟨⟨by decide +kernel, by decide +kernel⟩, List.mem_of_getElem? (i := 940) (by decide +kernel), List.mem_of_getElem? (i := 1442) (by decide +kernel), List.mem_of_getElem? (i := 1443) (by decide +kernel)⟩
theorem lw_p81 : lw_okq (⟨"FilmPrinterModel", "goFrom", "(II)V"⟩, 46) := ⟨⟨by decide +kernel, by decide +kernel⟩, List.mem_of_getElem? (i := 940) (by decide +kernel), List.mem_of_getElem? (i := 1446) (by decide +kernel), List.mem_of_getElem? (i := 1447) (by decide +kernel)⟩
theorem lw_p82 : lw_okq (⟨"FilmPrinterModel", "scratch", "(II)I"⟩, 46) := ⟨⟨by decide +kernel, by decide +kernel⟩, List.mem_of_getElem? (i := 940) (by decide +kernel), List.mem_of_getElem? (i := 1450) (by decide +kernel), List.mem_of_getElem? (i := 1451) (by decide +kernel)⟩
def lw_privs_6 : List (MethodName × Nat) := [(⟨"FilmPrinterModel", "findOne", "()V"⟩, 46), (⟨"FilmPrinterModel", "goFrom", "(II)V"⟩, 46), (⟨"FilmPrinterModel", "scratch", "(II)I"⟩, 46)]
theorem lw_r6 : ∀ q ∈ lw_privs_6, lw_okq q := List.forall_mem_cons.mpr ⟨lw_p80, List.forall_mem_cons.mpr ⟨lw_p81, List.forall_mem_cons.mpr ⟨lw_p82, fun _ h => absurd h List.not_mem_nil⟩⟩⟩
def lw_privs : List (MethodName × Nat) := lw_privs_1 ++ (lw_privs_2 ++ (lw_privs_3 ++ (lw_privs_4 ++ (lw_privs_5 ++ (lw_privs_6)))))
def lw_tbl : List Cond := k2_sels lw_privs ++ tables_1
theorem lw_privs_ok : ∀ q ∈ lw_privs, lw_okq q := by
  show ∀ q ∈ lw_privs_1 ++ (lw_privs_2 ++ (lw_privs_3 ++ (lw_privs_4 ++ (lw_privs_5 ++ (lw_privs_6))))), lw_okq q
  exact List.forall_mem_append.mpr ⟨lw_r1, List.forall_mem_append.mpr ⟨lw_r2, List.forall_mem_append.mpr ⟨lw_r3, List.forall_mem_append.mpr ⟨lw_r4, List.forall_mem_append.mpr ⟨lw_r5, lw_r6⟩⟩⟩⟩⟩
end
section
-- the classes: names, fields in the order of the slots (declaring class, name, descriptor, final), their types
def x_tbl : List Cond := lw_tbl.filter goodWord
def R_Asker : String := "FilmPrinter$Asker"
def F_Asker : u_T := fun k => match k with
  | 0 => ("FilmPrinter$Asker", "stack", "[I", true)
  | 1 => ("FilmPrinter$Asker", "traits", "[I", true)
  | 2 => ("FilmPrinter$Asker", "top", "I", false)
  | 3 => ("FilmPrinter$Asker", "light", "I", false)
  | 4 => ("FilmPrinter$Asker", "title", "I", false)
  | _ => ("FilmPrinter$Asker", "cut", "Z", false)
def t_Asker : Nat → FieldType := fun k => match k with
  | 0 => .array .int
  | 1 => .array .int
  | 2 => .int
  | 3 => .int
  | 4 => .int
  | _ => .boolean
theorem n_Asker : ∀ a, a < 6 → ∀ b, b < 6 → a ≠ b → (F_Asker a).2.1 ≠ (F_Asker b).2.1 := by decide +kernel
theorem t_Asker_ok : ∀ k, k < 6 → parseFieldDescriptor (F_Asker k).2.2.1 = some (t_Asker k) := by decide +kernel
theorem i_Asker : ∀ w ∈ u_ws R_Asker F_Asker 6, w ∈ lw_tbl := by decide +kernel
theorem g_Asker : ∀ w ∈ u_ws R_Asker F_Asker 6, goodWord w = true := by decide +kernel
def R_Edition : String := "FilmPrinter$Edition"
def F_Edition : u_T := fun k => match k with
  | 0 => ("FilmPrinter$Edition", "placeCount", "I", false)
  | 1 => ("FilmPrinter$Edition", "keptCount", "I", false)
  | 2 => ("FilmPrinter$Edition", "shotAt", "[I", true)
  | 3 => ("FilmPrinter$Edition", "frameAt", "[I", true)
  | 4 => ("FilmPrinter$Edition", "partAt", "[I", true)
  | _ => ("FilmPrinter$Edition", "lights", "[I", true)
def t_Edition : Nat → FieldType := fun k => match k with
  | 0 => .int
  | 1 => .int
  | 2 => .array .int
  | 3 => .array .int
  | 4 => .array .int
  | _ => .array .int
theorem n_Edition : ∀ a, a < 6 → ∀ b, b < 6 → a ≠ b → (F_Edition a).2.1 ≠ (F_Edition b).2.1 := by decide +kernel
theorem t_Edition_ok : ∀ k, k < 6 → parseFieldDescriptor (F_Edition k).2.2.1 = some (t_Edition k) := by decide +kernel
theorem i_Edition : ∀ w ∈ u_ws R_Edition F_Edition 6, w ∈ lw_tbl := by decide +kernel
theorem g_Edition : ∀ w ∈ u_ws R_Edition F_Edition 6, goodWord w = true := by decide +kernel
def R_Explainer : String := "FilmPrinter$Explainer"
def F_Explainer : u_T := fun k => match k with
  | 0 => ("FilmPrinter$Explainer", "apart", "[I", true)
  | 1 => ("FilmPrinter$Explainer", "least", "[I", true)
  | 2 => ("FilmPrinter$Explainer", "way", "[I", true)
  | 3 => ("FilmPrinter$Explainer", "cost", "I", false)
  | 4 => ("FilmPrinter$Explainer", "failCount", "I", false)
  | _ => ("FilmPrinter$Explainer", "apartCount", "I", false)
def t_Explainer : Nat → FieldType := fun k => match k with
  | 0 => .array .int
  | 1 => .array .int
  | 2 => .array .int
  | 3 => .int
  | 4 => .int
  | _ => .int
theorem n_Explainer : ∀ a, a < 6 → ∀ b, b < 6 → a ≠ b → (F_Explainer a).2.1 ≠ (F_Explainer b).2.1 := by decide +kernel
theorem t_Explainer_ok : ∀ k, k < 6 → parseFieldDescriptor (F_Explainer k).2.2.1 = some (t_Explainer k) := by decide +kernel
theorem i_Explainer : ∀ w ∈ u_ws R_Explainer F_Explainer 6, w ∈ lw_tbl := by decide +kernel
theorem g_Explainer : ∀ w ∈ u_ws R_Explainer F_Explainer 6, goodWord w = true := by decide +kernel
def R_Law : String := "FilmPrinter$Law"
def F_Law : u_T := fun k => match k with
  | 0 => ("FilmPrinter$Law", "clauseCount", "I", false)
  | 1 => ("FilmPrinter$Law", "codeLength", "I", false)
  | 2 => ("FilmPrinter$Law", "heads", "[I", true)
  | 3 => ("FilmPrinter$Law", "starts", "[I", true)
  | 4 => ("FilmPrinter$Law", "steps", "[I", true)
  | _ => ("FilmPrinter$Law", "values", "[I", true)
def t_Law : Nat → FieldType := fun k => match k with
  | 0 => .int
  | 1 => .int
  | 2 => .array .int
  | 3 => .array .int
  | 4 => .array .int
  | _ => .array .int
theorem n_Law : ∀ a, a < 6 → ∀ b, b < 6 → a ≠ b → (F_Law a).2.1 ≠ (F_Law b).2.1 := by decide +kernel
theorem t_Law_ok : ∀ k, k < 6 → parseFieldDescriptor (F_Law k).2.2.1 = some (t_Law k) := by decide +kernel
theorem i_Law : ∀ w ∈ u_ws R_Law F_Law 6, w ∈ lw_tbl := by decide +kernel
theorem g_Law : ∀ w ∈ u_ws R_Law F_Law 6, goodWord w = true := by decide +kernel
def R_Maker : String := "FilmPrinter$Maker"
def F_Maker : u_T := fun k => match k with
  | 0 => ("FilmPrinter$Maker", "leastBehind0", "[I", true)
  | 1 => ("FilmPrinter$Maker", "leastBehind1", "[I", true)
  | 2 => ("FilmPrinter$Maker", "taken", "[I", true)
  | 3 => ("FilmPrinter$Maker", "cost", "I", false)
  | 4 => ("FilmPrinter$Maker", "seamCount", "I", false)
  | 5 => ("FilmPrinter$Maker", "missingCount", "I", false)
  | 6 => ("FilmPrinter$Maker", "longestMissing", "I", false)
  | _ => ("FilmPrinter$Maker", "olderCount", "I", false)
def t_Maker : Nat → FieldType := fun k => match k with
  | 0 => .array .int
  | 1 => .array .int
  | 2 => .array .int
  | 3 => .int
  | 4 => .int
  | 5 => .int
  | 6 => .int
  | _ => .int
theorem n_Maker : ∀ a, a < 8 → ∀ b, b < 8 → a ≠ b → (F_Maker a).2.1 ≠ (F_Maker b).2.1 := by decide +kernel
theorem t_Maker_ok : ∀ k, k < 8 → parseFieldDescriptor (F_Maker k).2.2.1 = some (t_Maker k) := by decide +kernel
theorem i_Maker : ∀ w ∈ u_ws R_Maker F_Maker 8, w ∈ lw_tbl := by decide +kernel
theorem g_Maker : ∀ w ∈ u_ws R_Maker F_Maker 8, goodWord w = true := by decide +kernel
def R_Matcher : String := "FilmPrinter$Matcher"
def F_Matcher : u_T := fun k => match k with
  | 0 => ("FilmPrinter$Matcher", "frameOf", "[I", true)
  | 1 => ("FilmPrinter$Matcher", "scratchOf", "[I", true)
  | 2 => ("FilmPrinter$Matcher", "matchedCounts", "[I", true)
  | 3 => ("FilmPrinter$Matcher", "fresh", "[Z", true)
  | 4 => ("FilmPrinter$Matcher", "most", "[I", true)
  | _ => ("FilmPrinter$Matcher", "worthwhile", "[I", true)
def t_Matcher : Nat → FieldType := fun k => match k with
  | 0 => .array .int
  | 1 => .array .int
  | 2 => .array .int
  | 3 => .array .boolean
  | 4 => .array .int
  | _ => .array .int
theorem n_Matcher : ∀ a, a < 6 → ∀ b, b < 6 → a ≠ b → (F_Matcher a).2.1 ≠ (F_Matcher b).2.1 := by decide +kernel
theorem t_Matcher_ok : ∀ k, k < 6 → parseFieldDescriptor (F_Matcher k).2.2.1 = some (t_Matcher k) := by decide +kernel
theorem i_Matcher : ∀ w ∈ u_ws R_Matcher F_Matcher 6, w ∈ lw_tbl := by decide +kernel
theorem g_Matcher : ∀ w ∈ u_ws R_Matcher F_Matcher 6, goodWord w = true := by decide +kernel
def R_Projector : String := "FilmPrinter$Projector"
def F_Projector : u_T := fun k => match k with
  | 0 => ("FilmPrinter$Projector", "jumps", "[I", true)
  | 1 => ("FilmPrinter$Projector", "jumpCount", "I", false)
  | 2 => ("FilmPrinter$Projector", "offCount", "I", false)
  | 3 => ("FilmPrinter$Projector", "joinCount", "I", false)
  | _ => ("FilmPrinter$Projector", "loudCount", "I", false)
def t_Projector : Nat → FieldType := fun k => match k with
  | 0 => .array .int
  | 1 => .int
  | 2 => .int
  | 3 => .int
  | _ => .int
theorem n_Projector : ∀ a, a < 5 → ∀ b, b < 5 → a ≠ b → (F_Projector a).2.1 ≠ (F_Projector b).2.1 := by decide +kernel
theorem t_Projector_ok : ∀ k, k < 5 → parseFieldDescriptor (F_Projector k).2.2.1 = some (t_Projector k) := by decide +kernel
theorem i_Projector : ∀ w ∈ u_ws R_Projector F_Projector 5, w ∈ lw_tbl := by decide +kernel
theorem g_Projector : ∀ w ∈ u_ws R_Projector F_Projector 5, goodWord w = true := by decide +kernel
def R_Reader : String := "FilmPrinter$Reader"
def F_Reader : u_T := fun k => match k with
  | 0 => ("FilmPrinter$Reader", "draft", "LFilmPrinter$Law;", true)
  | 1 => ("FilmPrinter$Reader", "kinds", "[I", true)
  | 2 => ("FilmPrinter$Reader", "values", "[I", true)
  | 3 => ("FilmPrinter$Reader", "places", "[I", true)
  | 4 => ("FilmPrinter$Reader", "tokenCount", "I", false)
  | 5 => ("FilmPrinter$Reader", "next", "I", false)
  | _ => ("FilmPrinter$Reader", "partCount", "I", false)
def t_Reader : Nat → FieldType := fun k => match k with
  | 0 => .object "FilmPrinter$Law"
  | 1 => .array .int
  | 2 => .array .int
  | 3 => .array .int
  | 4 => .int
  | 5 => .int
  | _ => .int
theorem n_Reader : ∀ a, a < 7 → ∀ b, b < 7 → a ≠ b → (F_Reader a).2.1 ≠ (F_Reader b).2.1 := by decide +kernel
theorem t_Reader_ok : ∀ k, k < 7 → parseFieldDescriptor (F_Reader k).2.2.1 = some (t_Reader k) := by decide +kernel
theorem i_Reader : ∀ w ∈ u_ws R_Reader F_Reader 7, w ∈ lw_tbl := by decide +kernel
theorem g_Reader : ∀ w ∈ u_ws R_Reader F_Reader 7, goodWord w = true := by decide +kernel
def R_State : String := "FilmPrinter$State"
def F_State : u_T := fun k => match k with
  | 0 => ("FilmPrinter$State", "shotCount", "I", false)
  | 1 => ("FilmPrinter$State", "frameCount", "I", false)
  | 2 => ("FilmPrinter$State", "seenCount", "I", false)
  | 3 => ("FilmPrinter$State", "shots", "[I", true)
  | 4 => ("FilmPrinter$State", "frameGreys", "[I", true)
  | 5 => ("FilmPrinter$State", "frameShots", "[I", true)
  | 6 => ("FilmPrinter$State", "terms", "[I", true)
  | 7 => ("FilmPrinter$State", "law", "LFilmPrinter$Law;", true)
  | 8 => ("FilmPrinter$State", "fails", "[I", true)
  | 9 => ("FilmPrinter$State", "seen", "[I", true)
  | 10 => ("FilmPrinter$State", "copyCounts", "[I", true)
  | 11 => ("FilmPrinter$State", "copyGreys", "[I", true)
  | 12 => ("FilmPrinter$State", "copyScratches", "[I", true)
  | 13 => ("FilmPrinter$State", "pairCounts", "[I", true)
  | _ => ("FilmPrinter$State", "rights", "[I", true)
def t_State : Nat → FieldType := fun k => match k with
  | 0 => .int
  | 1 => .int
  | 2 => .int
  | 3 => .array .int
  | 4 => .array .int
  | 5 => .array .int
  | 6 => .array .int
  | 7 => .object "FilmPrinter$Law"
  | 8 => .array .int
  | 9 => .array .int
  | 10 => .array .int
  | 11 => .array .int
  | 12 => .array .int
  | 13 => .array .int
  | _ => .array .int
theorem n_State : ∀ a, a < 15 → ∀ b, b < 15 → a ≠ b → (F_State a).2.1 ≠ (F_State b).2.1 := by decide +kernel
theorem t_State_ok : ∀ k, k < 15 → parseFieldDescriptor (F_State k).2.2.1 = some (t_State k) := by decide +kernel
theorem i_State : ∀ w ∈ u_ws R_State F_State 15, w ∈ lw_tbl := by decide +kernel
theorem g_State : ∀ w ∈ u_ws R_State F_State 15, goodWord w = true := by decide +kernel
def R_Tape : String := "FilmPrinter$Tape"
def F_Tape : u_T := fun k => match k with
  | 0 => ("FilmPrinter$Tape", "bytes", "[I", true)
  | _ => ("FilmPrinter$Tape", "length", "I", false)
def t_Tape : Nat → FieldType := fun k => match k with
  | 0 => .array .int
  | _ => .int
theorem n_Tape : ∀ a, a < 2 → ∀ b, b < 2 → a ≠ b → (F_Tape a).2.1 ≠ (F_Tape b).2.1 := by decide +kernel
theorem t_Tape_ok : ∀ k, k < 2 → parseFieldDescriptor (F_Tape k).2.2.1 = some (t_Tape k) := by decide +kernel
theorem i_Tape : ∀ w ∈ u_ws R_Tape F_Tape 2, w ∈ lw_tbl := by decide +kernel
theorem g_Tape : ∀ w ∈ u_ws R_Tape F_Tape 2, goodWord w = true := by decide +kernel
def R_Fp : String := "FilmPrinter"
def F_Fp : u_T := fun k => match k with
  | 0 => ("FilmPrinter", "now", "LFilmPrinter$State;", true)
  | 1 => ("FilmPrinter", "images", "[LFilmPrinter$State;", true)
  | 2 => ("FilmPrinter", "tape", "LFilmPrinter$Tape;", true)
  | 3 => ("FilmPrinter", "reader", "LFilmPrinter$Reader;", true)
  | 4 => ("FilmPrinter", "asker", "LFilmPrinter$Asker;", true)
  | 5 => ("FilmPrinter", "film", "LFilmPrinter$Edition;", true)
  | 6 => ("FilmPrinter", "explainer", "LFilmPrinter$Explainer;", true)
  | 7 => ("FilmPrinter", "projector", "LFilmPrinter$Projector;", true)
  | 8 => ("FilmPrinter", "matcher", "LFilmPrinter$Matcher;", true)
  | 9 => ("FilmPrinter", "maker", "LFilmPrinter$Maker;", true)
  | 10 => ("FilmPrinter", "faultPlace", "I", false)
  | _ => ("FilmPrinter", "refusedBy", "I", false)
def t_Fp : Nat → FieldType := fun k => match k with
  | 0 => .object "FilmPrinter$State"
  | 1 => .array (.object "FilmPrinter$State")
  | 2 => .object "FilmPrinter$Tape"
  | 3 => .object "FilmPrinter$Reader"
  | 4 => .object "FilmPrinter$Asker"
  | 5 => .object "FilmPrinter$Edition"
  | 6 => .object "FilmPrinter$Explainer"
  | 7 => .object "FilmPrinter$Projector"
  | 8 => .object "FilmPrinter$Matcher"
  | 9 => .object "FilmPrinter$Maker"
  | 10 => .int
  | _ => .int
theorem n_Fp : ∀ a, a < 12 → ∀ b, b < 12 → a ≠ b → (F_Fp a).2.1 ≠ (F_Fp b).2.1 := by decide +kernel
theorem t_Fp_ok : ∀ k, k < 12 → parseFieldDescriptor (F_Fp k).2.2.1 = some (t_Fp k) := by decide +kernel
theorem i_Fp : ∀ w ∈ u_ws R_Fp F_Fp 12, w ∈ lw_tbl := by decide +kernel
theorem g_Fp : ∀ w ∈ u_ws R_Fp F_Fp 12, goodWord w = true := by decide +kernel
def R_Mod : String := "FilmPrinterModel"
def F_Mod : u_T := fun k => match k with
  | 0 => ("FilmPrinterModel", "thrown", "I", false)
  | 1 => ("FilmPrinterModel", "status", "I", false)
  | 2 => ("FilmPrinterModel", "row", "[I", true)
  | 3 => ("FilmPrinterModel", "images", "[I", true)
  | 4 => ("FilmPrinterModel", "isKept", "[Z", true)
  | 5 => ("FilmPrinterModel", "tape", "[I", true)
  | 6 => ("FilmPrinterModel", "taped", "I", false)
  | 7 => ("FilmPrinterModel", "from", "I", false)
  | 8 => ("FilmPrinterModel", "to", "I", false)
  | 9 => ("FilmPrinterModel", "sort", "I", false)
  | 10 => ("FilmPrinterModel", "worth", "J", false)
  | 11 => ("FilmPrinterModel", "fault", "I", false)
  | 12 => ("FilmPrinterModel", "bad", "Z", false)
  | 13 => ("FilmPrinterModel", "nClauses", "I", false)
  | 14 => ("FilmPrinterModel", "nClause", "[I", true)
  | 15 => ("FilmPrinterModel", "nCode", "I", false)
  | 16 => ("FilmPrinterModel", "nOp", "[I", true)
  | 17 => ("FilmPrinterModel", "nArg", "[I", true)
  | 18 => ("FilmPrinterModel", "nLeaves", "I", false)
  | 19 => ("FilmPrinterModel", "pile", "[I", true)
  | 20 => ("FilmPrinterModel", "pileAt", "[I", true)
  | 21 => ("FilmPrinterModel", "piled", "I", false)
  | 22 => ("FilmPrinterModel", "opened", "I", false)
  | 23 => ("FilmPrinterModel", "set", "[J", true)
  | 24 => ("FilmPrinterModel", "rest", "[J", true)
  | 25 => ("FilmPrinterModel", "broken", "Z", false)
  | 26 => ("FilmPrinterModel", "value", "J", false)
  | 27 => ("FilmPrinterModel", "sum", "J", false)
  | 28 => ("FilmPrinterModel", "places", "I", false)
  | 29 => ("FilmPrinterModel", "parts", "I", false)
  | 30 => ("FilmPrinterModel", "partOf", "[I", true)
  | 31 => ("FilmPrinterModel", "frameOf", "[I", true)
  | 32 => ("FilmPrinterModel", "shotOf", "[I", true)
  | 33 => ("FilmPrinterModel", "lights", "[I", true)
  | 34 => ("FilmPrinterModel", "begins", "[I", true)
  | 35 => ("FilmPrinterModel", "aparts", "[I", true)
  | 36 => ("FilmPrinterModel", "costs", "[I", true)
  | 37 => ("FilmPrinterModel", "fails", "[I", true)
  | 38 => ("FilmPrinterModel", "hows", "[I", true)
  | 39 => ("FilmPrinterModel", "isFound", "[Z", true)
  | 40 => ("FilmPrinterModel", "follow", "[I", true)
  | 41 => ("FilmPrinterModel", "matches", "[I", true)
  | 42 => ("FilmPrinterModel", "copied", "[I", true)
  | 43 => ("FilmPrinterModel", "greys", "[I", true)
  | 44 => ("FilmPrinterModel", "ahead", "[I", true)
  | _ => ("FilmPrinterModel", "taken", "[I", true)
def t_Mod : Nat → FieldType := fun k => match k with
  | 0 => .int
  | 1 => .int
  | 2 => .array .int
  | 3 => .array .int
  | 4 => .array .boolean
  | 5 => .array .int
  | 6 => .int
  | 7 => .int
  | 8 => .int
  | 9 => .int
  | 10 => .long
  | 11 => .int
  | 12 => .boolean
  | 13 => .int
  | 14 => .array .int
  | 15 => .int
  | 16 => .array .int
  | 17 => .array .int
  | 18 => .int
  | 19 => .array .int
  | 20 => .array .int
  | 21 => .int
  | 22 => .int
  | 23 => .array .long
  | 24 => .array .long
  | 25 => .boolean
  | 26 => .long
  | 27 => .long
  | 28 => .int
  | 29 => .int
  | 30 => .array .int
  | 31 => .array .int
  | 32 => .array .int
  | 33 => .array .int
  | 34 => .array .int
  | 35 => .array .int
  | 36 => .array .int
  | 37 => .array .int
  | 38 => .array .int
  | 39 => .array .boolean
  | 40 => .array .int
  | 41 => .array .int
  | 42 => .array .int
  | 43 => .array .int
  | 44 => .array .int
  | _ => .array .int
theorem n_Mod : ∀ a, a < 46 → ∀ b, b < 46 → a ≠ b → (F_Mod a).2.1 ≠ (F_Mod b).2.1 := by decide +kernel
theorem t_Mod_ok : ∀ k, k < 46 → parseFieldDescriptor (F_Mod k).2.2.1 = some (t_Mod k) := by decide +kernel
theorem i_Mod : ∀ w ∈ u_ws R_Mod F_Mod 46, w ∈ lw_tbl := by decide +kernel
theorem g_Mod : ∀ w ∈ u_ws R_Mod F_Mod 46, goodWord w = true := by decide +kernel
abbrev x_cls : List vw_C := [(R_Asker, F_Asker, 6), (R_Edition, F_Edition, 6), (R_Explainer, F_Explainer, 6), (R_Law, F_Law, 6), (R_Maker, F_Maker, 8), (R_Matcher, F_Matcher, 6), (R_Projector, F_Projector, 5), (R_Reader, F_Reader, 7), (R_State, F_State, 15), (R_Tape, F_Tape, 2), (R_Fp, F_Fp, 12), (R_Mod, F_Mod, 46)]
/-- what a class number stands for -/
theorem x_cls_ok : ∀ (ci : Nat) (q : vw_C), x_cls[ci]? = some q → (∀ w ∈ u_ws q.1 q.2.1 q.2.2, w ∈ x_tbl) ∧ (∃ ty : Nat → FieldType, ∀ k, k < q.2.2 → parseFieldDescriptor (q.2.1 k).2.2.1 = some (ty k)) ∧ ∀ a, a < q.2.2 → ∀ b, b < q.2.2 → a ≠ b → (q.2.1 a).2.1 ≠ (q.2.1 b).2.1 := by
  intro ci q hq
  match ci, hq with
  | 0, hq => cases hq; exact ⟨fun w h => List.mem_filter.mpr ⟨i_Asker w h, g_Asker w h⟩, ⟨t_Asker, t_Asker_ok⟩, n_Asker⟩
  | 1, hq => cases hq; exact ⟨fun w h => List.mem_filter.mpr ⟨i_Edition w h, g_Edition w h⟩, ⟨t_Edition, t_Edition_ok⟩, n_Edition⟩
  | 2, hq => cases hq; exact ⟨fun w h => List.mem_filter.mpr ⟨i_Explainer w h, g_Explainer w h⟩, ⟨t_Explainer, t_Explainer_ok⟩, n_Explainer⟩
  | 3, hq => cases hq; exact ⟨fun w h => List.mem_filter.mpr ⟨i_Law w h, g_Law w h⟩, ⟨t_Law, t_Law_ok⟩, n_Law⟩
  | 4, hq => cases hq; exact ⟨fun w h => List.mem_filter.mpr ⟨i_Maker w h, g_Maker w h⟩, ⟨t_Maker, t_Maker_ok⟩, n_Maker⟩
  | 5, hq => cases hq; exact ⟨fun w h => List.mem_filter.mpr ⟨i_Matcher w h, g_Matcher w h⟩, ⟨t_Matcher, t_Matcher_ok⟩, n_Matcher⟩
  | 6, hq => cases hq; exact ⟨fun w h => List.mem_filter.mpr ⟨i_Projector w h, g_Projector w h⟩, ⟨t_Projector, t_Projector_ok⟩, n_Projector⟩
  | 7, hq => cases hq; exact ⟨fun w h => List.mem_filter.mpr ⟨i_Reader w h, g_Reader w h⟩, ⟨t_Reader, t_Reader_ok⟩, n_Reader⟩
  | 8, hq => cases hq; exact ⟨fun w h => List.mem_filter.mpr ⟨i_State w h, g_State w h⟩, ⟨t_State, t_State_ok⟩, n_State⟩
  | 9, hq => cases hq; exact ⟨fun w h => List.mem_filter.mpr ⟨i_Tape w h, g_Tape w h⟩, ⟨t_Tape, t_Tape_ok⟩, n_Tape⟩
  | 10, hq => cases hq; exact ⟨fun w h => List.mem_filter.mpr ⟨i_Fp w h, g_Fp w h⟩, ⟨t_Fp, t_Fp_ok⟩, n_Fp⟩
  | 11, hq => cases hq; exact ⟨fun w h => List.mem_filter.mpr ⟨i_Mod w h, g_Mod w h⟩, ⟨t_Mod, t_Mod_ok⟩, n_Mod⟩
  | k + 12, hq => simp [x_cls] at hq
end
section
-- the methods, numbered: name, bytes, locals, answer
def x_nm : Nat → MethodName := fun k => (bif Nat.blt k 108 then (bif Nat.blt k 54 then (bif Nat.blt k 27 then (bif Nat.blt k 13 then (bif Nat.blt k 6 then (bif Nat.blt k 3 then (bif Nat.blt k 1 then ⟨"jdk/internal/util/Preconditions", "checkIndex", "(IILjava/util/function/BiFunction;)I"⟩ else (bif Nat.blt k 2 then ⟨"java/util/Arrays", "fill", "([II)V"⟩ else ⟨"java/lang/String", "length", "()I"⟩)) else (bif Nat.blt k 4 then ⟨"java/lang/String", "coder", "()B"⟩ else (bif Nat.blt k 5 then ⟨"java/lang/String", "charAt", "(I)C"⟩ else ⟨"java/lang/String", "isLatin1", "()Z"⟩))) else (bif Nat.blt k 9 then (bif Nat.blt k 7 then ⟨"java/lang/String", "checkIndex", "(II)V"⟩ else (bif Nat.blt k 8 then ⟨"java/lang/StringLatin1", "charAt", "([BI)C"⟩ else ⟨"FilmPrinter$Asker", "<init>", "()V"⟩)) else (bif Nat.blt k 11 then (bif Nat.blt k 10 then ⟨"FilmPrinter$Asker", "ask", "(LFilmPrinter$State;II)V"⟩ else ⟨"FilmPrinter$Asker", "holds", "(LFilmPrinter$Law;II)Z"⟩) else (bif Nat.blt k 12 then ⟨"FilmPrinter$Asker", "run", "(II)Z"⟩ else ⟨"FilmPrinter$Asker", "push", "(I)Z"⟩)))) else (bif Nat.blt k 20 then (bif Nat.blt k 16 then (bif Nat.blt k 14 then ⟨"FilmPrinter$Asker", "reckon", "(IJJ)Z"⟩ else (bif Nat.blt k 15 then ⟨"FilmPrinter$Edition", "<init>", "()V"⟩ else ⟨"FilmPrinter$Edition", "build", "(LFilmPrinter$State;LFilmPrinter$Asker;I)V"⟩)) else (bif Nat.blt k 18 then (bif Nat.blt k 17 then ⟨"FilmPrinter$Edition", "addPlace", "(II)V"⟩ else ⟨"FilmPrinter$Edition", "turnInUse", "(LFilmPrinter$State;I)I"⟩) else (bif Nat.blt k 19 then ⟨"FilmPrinter$Edition", "greyBy", "(LFilmPrinter$State;II)I"⟩ else ⟨"FilmPrinter$Edition", "startsLaterPart", "(I)Z"⟩))) else (bif Nat.blt k 23 then (bif Nat.blt k 21 then ⟨"FilmPrinter$Explainer", "<init>", "()V"⟩ else (bif Nat.blt k 22 then ⟨"FilmPrinter$Explainer", "work", "(LFilmPrinter$State;LFilmPrinter$Edition;)V"⟩ else ⟨"FilmPrinter$Explainer", "countApart", "(LFilmPrinter$State;LFilmPrinter$Edition;)V"⟩)) else (bif Nat.blt k 25 then (bif Nat.blt k 24 then ⟨"FilmPrinter$Explainer", "bestFail", "(LFilmPrinter$Edition;III)I"⟩ else ⟨"FilmPrinter$Explainer", "leastBy", "(LFilmPrinter$Edition;IIII)I"⟩) else (bif Nat.blt k 26 then ⟨"FilmPrinter$Explainer", "follow", "(LFilmPrinter$Edition;I)V"⟩ else ⟨"FilmPrinter$Law", "<init>", "()V"⟩))))) else (bif Nat.blt k 40 then (bif Nat.blt k 33 then (bif Nat.blt k 30 then (bif Nat.blt k 28 then ⟨"FilmPrinter$Law", "empty", "()V"⟩ else (bif Nat.blt k 29 then ⟨"FilmPrinter$Law", "emit", "(II)V"⟩ else ⟨"FilmPrinter$Law", "passToHere", "(I)V"⟩)) else (bif Nat.blt k 31 then ⟨"FilmPrinter$Law", "closeClause", "(I)V"⟩ else (bif Nat.blt k 32 then ⟨"FilmPrinter$Law", "take", "(LFilmPrinter$Law;)V"⟩ else ⟨"FilmPrinter$Maker", "<init>", "()V"⟩))) else (bif Nat.blt k 36 then (bif Nat.blt k 34 then ⟨"FilmPrinter$Maker", "make", "(LFilmPrinter$State;LFilmPrinter$Matcher;)V"⟩ else (bif Nat.blt k 35 then ⟨"FilmPrinter$Maker", "costFrom", "(LFilmPrinter$Matcher;II[I)I"⟩ else ⟨"FilmPrinter$Maker", "lesser", "(II)I"⟩)) else (bif Nat.blt k 38 then (bif Nat.blt k 37 then ⟨"FilmPrinter$Maker", "follow", "(LFilmPrinter$State;LFilmPrinter$Matcher;I)V"⟩ else ⟨"FilmPrinter$Maker", "better", "(LFilmPrinter$Matcher;III)I"⟩) else (bif Nat.blt k 39 then ⟨"FilmPrinter$Maker", "countMissing", "(LFilmPrinter$State;)V"⟩ else ⟨"FilmPrinter$Maker", "countOlder", "(LFilmPrinter$State;LFilmPrinter$Matcher;)V"⟩)))) else (bif Nat.blt k 47 then (bif Nat.blt k 43 then (bif Nat.blt k 41 then ⟨"FilmPrinter$Matcher", "<init>", "()V"⟩ else (bif Nat.blt k 42 then ⟨"FilmPrinter$Matcher", "forget", "()V"⟩ else ⟨"FilmPrinter$Matcher", "refresh", "(LFilmPrinter$State;I)V"⟩)) else (bif Nat.blt k 45 then (bif Nat.blt k 44 then ⟨"FilmPrinter$Matcher", "weigh", "(LFilmPrinter$State;III)V"⟩ else ⟨"FilmPrinter$Matcher", "choose", "(LFilmPrinter$State;II)V"⟩) else (bif Nat.blt k 46 then ⟨"FilmPrinter$Projector", "<init>", "()V"⟩ else ⟨"FilmPrinter$Projector", "runShrunk", "(LFilmPrinter$State;LFilmPrinter$Edition;)V"⟩))) else (bif Nat.blt k 50 then (bif Nat.blt k 48 then ⟨"FilmPrinter$Projector", "shotHeard", "(LFilmPrinter$State;LFilmPrinter$Edition;I)I"⟩ else (bif Nat.blt k 49 then ⟨"FilmPrinter$Projector", "listen", "(LFilmPrinter$State;LFilmPrinter$Edition;)V"⟩ else ⟨"FilmPrinter$Projector", "soundOf", "(LFilmPrinter$State;I)I"⟩)) else (bif Nat.blt k 52 then (bif Nat.blt k 51 then ⟨"FilmPrinter$Reader", "<init>", "()V"⟩ else ⟨"FilmPrinter$Reader", "read", "(LFilmPrinter$Tape;)I"⟩) else (bif Nat.blt k 53 then ⟨"FilmPrinter$Reader", "split", "(LFilmPrinter$Tape;)V"⟩ else ⟨"FilmPrinter$Reader", "isLetter", "(I)Z"⟩)))))) else (bif Nat.blt k 81 then (bif Nat.blt k 67 then (bif Nat.blt k 60 then (bif Nat.blt k 57 then (bif Nat.blt k 55 then ⟨"FilmPrinter$Reader", "addWord", "(LFilmPrinter$Tape;II)V"⟩ else (bif Nat.blt k 56 then ⟨"FilmPrinter$Reader", "traitNamed", "(LFilmPrinter$Tape;II)I"⟩ else ⟨"FilmPrinter$Reader", "says", "(LFilmPrinter$Tape;IILjava/lang/String;)Z"⟩)) else (bif Nat.blt k 58 then ⟨"FilmPrinter$Reader", "addToken", "(III)V"⟩ else (bif Nat.blt k 59 then ⟨"FilmPrinter$Reader", "wordNamed", "(LFilmPrinter$Tape;II)I"⟩ else ⟨"FilmPrinter$Reader", "isDigit", "(I)Z"⟩))) else (bif Nat.blt k 63 then (bif Nat.blt k 61 then ⟨"FilmPrinter$Reader", "numberIn", "(LFilmPrinter$Tape;II)I"⟩ else (bif Nat.blt k 62 then ⟨"FilmPrinter$Reader", "readClause", "()Z"⟩ else ⟨"FilmPrinter$Reader", "pass", "()V"⟩)) else (bif Nat.blt k 65 then (bif Nat.blt k 64 then ⟨"FilmPrinter$Reader", "readSum", "(I)Z"⟩ else ⟨"FilmPrinter$Reader", "readTerm", "(I)Z"⟩) else (bif Nat.blt k 66 then ⟨"FilmPrinter$Reader", "readPart", "(I)Z"⟩ else ⟨"FilmPrinter$Reader", "readTest", "(I)Z"⟩)))) else (bif Nat.blt k 74 then (bif Nat.blt k 70 then (bif Nat.blt k 68 then ⟨"FilmPrinter$Reader", "readBoth", "(I)Z"⟩ else (bif Nat.blt k 69 then ⟨"FilmPrinter$Reader", "readPlain", "(I)Z"⟩ else ⟨"FilmPrinter$Reader", "readComparison", "(I)Z"⟩)) else (bif Nat.blt k 72 then (bif Nat.blt k 71 then ⟨"FilmPrinter$State", "<init>", "()V"⟩ else ⟨"FilmPrinter$State", "joinLatestShot", "()V"⟩) else (bif Nat.blt k 73 then ⟨"FilmPrinter$State", "trait", "(II)I"⟩ else ⟨"FilmPrinter$State", "refill", "([I[I)V"⟩))) else (bif Nat.blt k 77 then (bif Nat.blt k 75 then ⟨"FilmPrinter$State", "broughtBack", "(II)I"⟩ else (bif Nat.blt k 76 then ⟨"FilmPrinter$State", "take", "(LFilmPrinter$State;)V"⟩ else ⟨"FilmPrinter$Tape", "<init>", "()V"⟩)) else (bif Nat.blt k 79 then (bif Nat.blt k 78 then ⟨"FilmPrinter$Tape", "append", "(I)V"⟩ else ⟨"FilmPrinter$Tape", "empty", "()I"⟩) else (bif Nat.blt k 80 then ⟨"FilmPrinter", "<init>", "()V"⟩ else ⟨"FilmPrinter", "shot", "(IIIIII)I"⟩))))) else (bif Nat.blt k 94 then (bif Nat.blt k 87 then (bif Nat.blt k 84 then (bif Nat.blt k 82 then ⟨"FilmPrinter", "between", "(III)Z"⟩ else (bif Nat.blt k 83 then ⟨"FilmPrinter", "refuse", "(I)I"⟩ else ⟨"FilmPrinter", "nearest", "(III)I"⟩)) else (bif Nat.blt k 85 then ⟨"FilmPrinter", "accept", "(I)I"⟩ else (bif Nat.blt k 86 then ⟨"FilmPrinter", "of", "(II)I"⟩ else ⟨"FilmPrinter", "hasShot", "(I)Z"⟩))) else (bif Nat.blt k 90 then (bif Nat.blt k 88 then ⟨"FilmPrinter", "terms", "(II)I"⟩ else (bif Nat.blt k 89 then ⟨"FilmPrinter", "feed", "(IIIII)I"⟩ else ⟨"FilmPrinter", "end", "(I)I"⟩)) else (bif Nat.blt k 92 then (bif Nat.blt k 91 then ⟨"FilmPrinter", "law", "()I"⟩ else ⟨"FilmPrinter", "fault", "()I"⟩) else (bif Nat.blt k 93 then ⟨"FilmPrinter", "asks", "(III)I"⟩ else ⟨"FilmPrinter", "isLand", "(I)Z"⟩)))) else (bif Nat.blt k 101 then (bif Nat.blt k 97 then (bif Nat.blt k 95 then ⟨"FilmPrinter", "edition", "(II)I"⟩ else (bif Nat.blt k 96 then ⟨"FilmPrinter", "place", "(III)I"⟩ else ⟨"FilmPrinter", "hasPlace", "(II)Z"⟩)) else (bif Nat.blt k 99 then (bif Nat.blt k 98 then ⟨"FilmPrinter", "fail", "(II)I"⟩ else ⟨"FilmPrinter", "printed", "(II)I"⟩) else (bif Nat.blt k 100 then ⟨"FilmPrinter", "turnAfter", "(III)I"⟩ else ⟨"FilmPrinter", "see", "()I"⟩))) else (bif Nat.blt k 104 then (bif Nat.blt k 102 then ⟨"FilmPrinter", "seen", "(I)I"⟩ else (bif Nat.blt k 103 then ⟨"FilmPrinter", "explain", "(II)I"⟩ else ⟨"FilmPrinter", "isExplained", "(I)Z"⟩)) else (bif Nat.blt k 106 then (bif Nat.blt k 105 then ⟨"FilmPrinter", "failed", "(II)I"⟩ else ⟨"FilmPrinter", "jump", "(II)I"⟩) else (bif Nat.blt k 107 then ⟨"FilmPrinter", "heard", "(II)I"⟩ else ⟨"FilmPrinter", "sound", "(II)I"⟩))))))) else (bif Nat.blt k 162 then (bif Nat.blt k 135 then (bif Nat.blt k 121 then (bif Nat.blt k 114 then (bif Nat.blt k 111 then (bif Nat.blt k 109 then ⟨"FilmPrinter", "copy", "(I)I"⟩ else (bif Nat.blt k 110 then ⟨"FilmPrinter", "isCopy", "(I)Z"⟩ else ⟨"FilmPrinter", "match", "(II)I"⟩)) else (bif Nat.blt k 112 then ⟨"FilmPrinter", "matched", "(II)I"⟩ else (bif Nat.blt k 113 then ⟨"FilmPrinter", "one", "(I)I"⟩ else ⟨"FilmPrinter", "makeOne", "()V"⟩))) else (bif Nat.blt k 117 then (bif Nat.blt k 115 then ⟨"FilmPrinter", "from", "(I)I"⟩ else (bif Nat.blt k 116 then ⟨"FilmPrinter", "pair", "(III)I"⟩ else ⟨"FilmPrinter", "isGrey", "(I)Z"⟩)) else (bif Nat.blt k 119 then (bif Nat.blt k 118 then ⟨"FilmPrinter", "brought", "(II)I"⟩ else ⟨"FilmPrinter", "clear", "()I"⟩) else (bif Nat.blt k 120 then ⟨"FilmPrinter", "image", "(I)I"⟩ else ⟨"FilmPrinter", "back", "(I)I"⟩)))) else (bif Nat.blt k 128 then (bif Nat.blt k 124 then (bif Nat.blt k 122 then ⟨"FilmPrinter", "count", "(I)I"⟩ else (bif Nat.blt k 123 then ⟨"FilmPrinter", "status", "()I"⟩ else ⟨"FilmPrinterModel", "<init>", "()V"⟩)) else (bif Nat.blt k 126 then (bif Nat.blt k 125 then ⟨"FilmPrinterModel", "image", "(I)I"⟩ else ⟨"FilmPrinterModel", "in", "(JJJ)Z"⟩) else (bif Nat.blt k 127 then ⟨"FilmPrinterModel", "tell", "(I)I"⟩ else ⟨"FilmPrinterModel", "back", "(I)I"⟩))) else (bif Nat.blt k 131 then (bif Nat.blt k 129 then ⟨"FilmPrinterModel", "forget", "()V"⟩ else (bif Nat.blt k 130 then ⟨"FilmPrinterModel", "shot", "(IIIIII)I"⟩ else ⟨"FilmPrinterModel", "shotAt", "(I)I"⟩)) else (bif Nat.blt k 133 then (bif Nat.blt k 132 then ⟨"FilmPrinterModel", "of", "(II)I"⟩ else ⟨"FilmPrinterModel", "isShot", "(I)Z"⟩) else (bif Nat.blt k 134 then ⟨"FilmPrinterModel", "firstOf", "(I)I"⟩ else ⟨"FilmPrinterModel", "terms", "(II)I"⟩))))) else (bif Nat.blt k 148 then (bif Nat.blt k 141 then (bif Nat.blt k 138 then (bif Nat.blt k 136 then ⟨"FilmPrinterModel", "leastOf", "(I)I"⟩ else (bif Nat.blt k 137 then ⟨"FilmPrinterModel", "mostOf", "(I)I"⟩ else ⟨"FilmPrinterModel", "feed", "(IIIII)I"⟩)) else (bif Nat.blt k 139 then ⟨"FilmPrinterModel", "four", "(I)V"⟩ else (bif Nat.blt k 140 then ⟨"FilmPrinterModel", "end", "(I)I"⟩ else ⟨"FilmPrinterModel", "fault", "()I"⟩))) else (bif Nat.blt k 144 then (bif Nat.blt k 142 then ⟨"FilmPrinterModel", "law", "()I"⟩ else (bif Nat.blt k 143 then ⟨"FilmPrinterModel", "begin", "()V"⟩ else ⟨"FilmPrinterModel", "next", "()V"⟩)) else (bif Nat.blt k 146 then (bif Nat.blt k 145 then ⟨"FilmPrinterModel", "isSmall", "(I)Z"⟩ else ⟨"FilmPrinterModel", "isDigit", "(I)Z"⟩) else (bif Nat.blt k 147 then ⟨"FilmPrinterModel", "readClause", "()V"⟩ else ⟨"FilmPrinterModel", "headAt", "()I"⟩)))) else (bif Nat.blt k 155 then (bif Nat.blt k 151 then (bif Nat.blt k 149 then ⟨"FilmPrinterModel", "isWord", "(J)Z"⟩ else (bif Nat.blt k 150 then ⟨"FilmPrinterModel", "must", "(Z)V"⟩ else ⟨"FilmPrinterModel", "readExpression", "(Z)V"⟩)) else (bif Nat.blt k 153 then (bif Nat.blt k 152 then ⟨"FilmPrinterModel", "readPlain", "()I"⟩ else ⟨"FilmPrinterModel", "push", "(II)V"⟩) else (bif Nat.blt k 154 then ⟨"FilmPrinterModel", "isSign", "(I)Z"⟩ else ⟨"FilmPrinterModel", "openBracket", "(I)V"⟩))) else (bif Nat.blt k 158 then (bif Nat.blt k 156 then ⟨"FilmPrinterModel", "readPart", "()I"⟩ else (bif Nat.blt k 157 then ⟨"FilmPrinterModel", "partAt", "()I"⟩ else ⟨"FilmPrinterModel", "leaf", "(ZII)V"⟩)) else (bif Nat.blt k 160 then (bif Nat.blt k 159 then ⟨"FilmPrinterModel", "emit", "(II)V"⟩ else ⟨"FilmPrinterModel", "behindSum", "(Z)I"⟩) else (bif Nat.blt k 161 then ⟨"FilmPrinterModel", "binds", "(I)I"⟩ else ⟨"FilmPrinterModel", "settle", "(I)V"⟩)))))) else (bif Nat.blt k 189 then (bif Nat.blt k 175 then (bif Nat.blt k 168 then (bif Nat.blt k 165 then (bif Nat.blt k 163 then ⟨"FilmPrinterModel", "inner", "()I"⟩ else (bif Nat.blt k 164 then ⟨"FilmPrinterModel", "isCompared", "()Z"⟩ else ⟨"FilmPrinterModel", "behindTest", "()I"⟩)) else (bif Nat.blt k 166 then ⟨"FilmPrinterModel", "asks", "(III)I"⟩ else (bif Nat.blt k 167 then ⟨"FilmPrinterModel", "isLand", "(I)Z"⟩ else ⟨"FilmPrinterModel", "lightOf", "(II)I"⟩))) else (bif Nat.blt k 171 then (bif Nat.blt k 169 then ⟨"FilmPrinterModel", "ask", "(II)V"⟩ else (bif Nat.blt k 170 then ⟨"FilmPrinterModel", "find", "(IIII)I"⟩ else ⟨"FilmPrinterModel", "isSo", "(I)Z"⟩)) else (bif Nat.blt k 173 then (bif Nat.blt k 172 then ⟨"FilmPrinterModel", "reckonAll", "(II)V"⟩ else ⟨"FilmPrinterModel", "reckon", "(IJJ)J"⟩) else (bif Nat.blt k 174 then ⟨"FilmPrinterModel", "titleOf", "(II)I"⟩ else ⟨"FilmPrinterModel", "cutOf", "(II)I"⟩)))) else (bif Nat.blt k 182 then (bif Nat.blt k 178 then (bif Nat.blt k 176 then ⟨"FilmPrinterModel", "edition", "(II)I"⟩ else (bif Nat.blt k 177 then ⟨"FilmPrinterModel", "findEdition", "(I)V"⟩ else ⟨"FilmPrinterModel", "place", "(III)I"⟩)) else (bif Nat.blt k 180 then (bif Nat.blt k 179 then ⟨"FilmPrinterModel", "fail", "(II)I"⟩ else ⟨"FilmPrinterModel", "printed", "(II)I"⟩) else (bif Nat.blt k 181 then ⟨"FilmPrinterModel", "moved", "(II)I"⟩ else ⟨"FilmPrinterModel", "printOf", "(II)I"⟩))) else (bif Nat.blt k 185 then (bif Nat.blt k 183 then ⟨"FilmPrinterModel", "greyOf", "(I)I"⟩ else (bif Nat.blt k 184 then ⟨"FilmPrinterModel", "nearest", "(J)I"⟩ else ⟨"FilmPrinterModel", "see", "()I"⟩)) else (bif Nat.blt k 187 then (bif Nat.blt k 186 then ⟨"FilmPrinterModel", "seen", "(I)I"⟩ else ⟨"FilmPrinterModel", "explain", "(II)I"⟩) else (bif Nat.blt k 188 then ⟨"FilmPrinterModel", "explains", "(I)Z"⟩ else ⟨"FilmPrinterModel", "goOn", "(II)V"⟩))))) else (bif Nat.blt k 202 then (bif Nat.blt k 195 then (bif Nat.blt k 192 then (bif Nat.blt k 190 then ⟨"FilmPrinterModel", "apart", "(II)I"⟩ else (bif Nat.blt k 191 then ⟨"FilmPrinterModel", "failed", "(II)I"⟩ else ⟨"FilmPrinterModel", "jump", "(II)I"⟩)) else (bif Nat.blt k 193 then ⟨"FilmPrinterModel", "heard", "(II)I"⟩ else (bif Nat.blt k 194 then ⟨"FilmPrinterModel", "hear", "(I)I"⟩ else ⟨"FilmPrinterModel", "frames", "()I"⟩))) else (bif Nat.blt k 198 then (bif Nat.blt k 196 then ⟨"FilmPrinterModel", "shotWith", "(I)I"⟩ else (bif Nat.blt k 197 then ⟨"FilmPrinterModel", "sound", "(II)I"⟩ else ⟨"FilmPrinterModel", "soundOf", "(I)I"⟩)) else (bif Nat.blt k 200 then (bif Nat.blt k 199 then ⟨"FilmPrinterModel", "copy", "(I)I"⟩ else ⟨"FilmPrinterModel", "isCopy", "(I)Z"⟩) else (bif Nat.blt k 201 then ⟨"FilmPrinterModel", "match", "(II)I"⟩ else ⟨"FilmPrinterModel", "findMatches", "(I)V"⟩)))) else (bif Nat.blt k 209 then (bif Nat.blt k 205 then (bif Nat.blt k 203 then ⟨"FilmPrinterModel", "findGreys", "()V"⟩ else (bif Nat.blt k 204 then ⟨"FilmPrinterModel", "isAlike", "(III)Z"⟩ else ⟨"FilmPrinterModel", "matched", "(II)I"⟩)) else (bif Nat.blt k 207 then (bif Nat.blt k 206 then ⟨"FilmPrinterModel", "one", "(I)I"⟩ else ⟨"FilmPrinterModel", "findOne", "()V"⟩) else (bif Nat.blt k 208 then ⟨"FilmPrinterModel", "goFrom", "(II)V"⟩ else ⟨"FilmPrinterModel", "scratch", "(II)I"⟩))) else (bif Nat.blt k 212 then (bif Nat.blt k 210 then ⟨"FilmPrinterModel", "from", "(I)I"⟩ else (bif Nat.blt k 211 then ⟨"FilmPrinterModel", "pair", "(III)I"⟩ else ⟨"FilmPrinterModel", "brought", "(II)I"⟩)) else (bif Nat.blt k 214 then (bif Nat.blt k 213 then ⟨"FilmPrinterModel", "clear", "()I"⟩ else ⟨"FilmPrinterModel", "count", "(I)I"⟩) else (bif Nat.blt k 215 then ⟨"FilmPrinterModel", "status", "()I"⟩ else ⟨"FilmPrinterLaw", "law", "([I)Z"⟩))))))))
def x_cc : Nat → ByteArray := fun k => (bif Nat.blt k 108 then (bif Nat.blt k 54 then (bif Nat.blt k 27 then (bif Nat.blt k 13 then (bif Nat.blt k 6 then (bif Nat.blt k 3 then (bif Nat.blt k 1 then prog_21_method_11_code else (bif Nat.blt k 2 then prog_20_method_103_code else prog_16_method_54_code)) else (bif Nat.blt k 4 then prog_16_method_152_code else (bif Nat.blt k 5 then prog_16_method_56_code else prog_16_method_154_code))) else (bif Nat.blt k 9 then (bif Nat.blt k 7 then prog_16_method_155_code else (bif Nat.blt k 8 then prog_17_method_2_code else prog_2_method_1_code)) else (bif Nat.blt k 11 then (bif Nat.blt k 10 then prog_2_method_2_code else prog_2_method_3_code) else (bif Nat.blt k 12 then prog_2_method_4_code else prog_2_method_5_code)))) else (bif Nat.blt k 20 then (bif Nat.blt k 16 then (bif Nat.blt k 14 then prog_2_method_6_code else (bif Nat.blt k 15 then prog_3_method_1_code else prog_3_method_2_code)) else (bif Nat.blt k 18 then (bif Nat.blt k 17 then prog_3_method_3_code else prog_3_method_5_code) else (bif Nat.blt k 19 then prog_3_method_6_code else prog_3_method_4_code))) else (bif Nat.blt k 23 then (bif Nat.blt k 21 then prog_4_method_1_code else (bif Nat.blt k 22 then prog_4_method_2_code else prog_4_method_3_code)) else (bif Nat.blt k 25 then (bif Nat.blt k 24 then prog_4_method_5_code else prog_4_method_4_code) else (bif Nat.blt k 26 then prog_4_method_6_code else prog_5_method_1_code))))) else (bif Nat.blt k 40 then (bif Nat.blt k 33 then (bif Nat.blt k 30 then (bif Nat.blt k 28 then prog_5_method_3_code else (bif Nat.blt k 29 then prog_5_method_4_code else prog_5_method_5_code)) else (bif Nat.blt k 31 then prog_5_method_6_code else (bif Nat.blt k 32 then prog_5_method_2_code else prog_6_method_1_code))) else (bif Nat.blt k 36 then (bif Nat.blt k 34 then prog_6_method_2_code else (bif Nat.blt k 35 then prog_6_method_3_code else prog_6_method_4_code)) else (bif Nat.blt k 38 then (bif Nat.blt k 37 then prog_6_method_5_code else prog_6_method_6_code) else (bif Nat.blt k 39 then prog_6_method_7_code else prog_6_method_8_code)))) else (bif Nat.blt k 47 then (bif Nat.blt k 43 then (bif Nat.blt k 41 then prog_7_method_1_code else (bif Nat.blt k 42 then prog_7_method_2_code else prog_7_method_3_code)) else (bif Nat.blt k 45 then (bif Nat.blt k 44 then prog_7_method_4_code else prog_7_method_5_code) else (bif Nat.blt k 46 then prog_8_method_1_code else prog_8_method_2_code))) else (bif Nat.blt k 50 then (bif Nat.blt k 48 then prog_8_method_3_code else (bif Nat.blt k 49 then prog_8_method_4_code else prog_8_method_5_code)) else (bif Nat.blt k 52 then (bif Nat.blt k 51 then prog_9_method_1_code else prog_9_method_2_code) else (bif Nat.blt k 53 then prog_9_method_3_code else prog_9_method_5_code)))))) else (bif Nat.blt k 81 then (bif Nat.blt k 67 then (bif Nat.blt k 60 then (bif Nat.blt k 57 then (bif Nat.blt k 55 then prog_9_method_8_code else (bif Nat.blt k 56 then prog_9_method_9_code else prog_9_method_11_code)) else (bif Nat.blt k 58 then prog_9_method_4_code else (bif Nat.blt k 59 then prog_9_method_10_code else prog_9_method_6_code))) else (bif Nat.blt k 63 then (bif Nat.blt k 61 then prog_9_method_7_code else (bif Nat.blt k 62 then prog_9_method_13_code else prog_9_method_12_code)) else (bif Nat.blt k 65 then (bif Nat.blt k 64 then prog_9_method_18_code else prog_9_method_19_code) else (bif Nat.blt k 66 then prog_9_method_20_code else prog_9_method_14_code)))) else (bif Nat.blt k 74 then (bif Nat.blt k 70 then (bif Nat.blt k 68 then prog_9_method_15_code else (bif Nat.blt k 69 then prog_9_method_16_code else prog_9_method_17_code)) else (bif Nat.blt k 72 then (bif Nat.blt k 71 then prog_10_method_1_code else prog_10_method_5_code) else (bif Nat.blt k 73 then prog_10_method_4_code else prog_10_method_3_code))) else (bif Nat.blt k 77 then (bif Nat.blt k 75 then prog_10_method_6_code else (bif Nat.blt k 76 then prog_10_method_2_code else prog_11_method_1_code)) else (bif Nat.blt k 79 then (bif Nat.blt k 78 then prog_11_method_2_code else prog_11_method_3_code) else (bif Nat.blt k 80 then prog_1_method_1_code else prog_1_method_2_code))))) else (bif Nat.blt k 94 then (bif Nat.blt k 87 then (bif Nat.blt k 84 then (bif Nat.blt k 82 then prog_1_method_42_code else (bif Nat.blt k 83 then prog_1_method_33_code else prog_1_method_43_code)) else (bif Nat.blt k 85 then prog_1_method_34_code else (bif Nat.blt k 86 then prog_1_method_3_code else prog_1_method_35_code))) else (bif Nat.blt k 90 then (bif Nat.blt k 88 then prog_1_method_4_code else (bif Nat.blt k 89 then prog_1_method_5_code else prog_1_method_6_code)) else (bif Nat.blt k 92 then (bif Nat.blt k 91 then prog_1_method_7_code else prog_1_method_8_code) else (bif Nat.blt k 93 then prog_1_method_9_code else prog_1_method_39_code)))) else (bif Nat.blt k 101 then (bif Nat.blt k 97 then (bif Nat.blt k 95 then prog_1_method_10_code else (bif Nat.blt k 96 then prog_1_method_11_code else prog_1_method_36_code)) else (bif Nat.blt k 99 then (bif Nat.blt k 98 then prog_1_method_12_code else prog_1_method_13_code) else (bif Nat.blt k 100 then prog_1_method_44_code else prog_1_method_14_code))) else (bif Nat.blt k 104 then (bif Nat.blt k 102 then prog_1_method_15_code else (bif Nat.blt k 103 then prog_1_method_16_code else prog_1_method_37_code)) else (bif Nat.blt k 106 then (bif Nat.blt k 105 then prog_1_method_17_code else prog_1_method_18_code) else (bif Nat.blt k 107 then prog_1_method_19_code else prog_1_method_20_code))))))) else (bif Nat.blt k 162 then (bif Nat.blt k 135 then (bif Nat.blt k 121 then (bif Nat.blt k 114 then (bif Nat.blt k 111 then (bif Nat.blt k 109 then prog_1_method_21_code else (bif Nat.blt k 110 then prog_1_method_40_code else prog_1_method_22_code)) else (bif Nat.blt k 112 then prog_1_method_23_code else (bif Nat.blt k 113 then prog_1_method_24_code else prog_1_method_38_code))) else (bif Nat.blt k 117 then (bif Nat.blt k 115 then prog_1_method_25_code else (bif Nat.blt k 116 then prog_1_method_26_code else prog_1_method_41_code)) else (bif Nat.blt k 119 then (bif Nat.blt k 118 then prog_1_method_27_code else prog_1_method_28_code) else (bif Nat.blt k 120 then prog_1_method_29_code else prog_1_method_30_code)))) else (bif Nat.blt k 128 then (bif Nat.blt k 124 then (bif Nat.blt k 122 then prog_1_method_31_code else (bif Nat.blt k 123 then prog_1_method_32_code else prog_13_method_1_code)) else (bif Nat.blt k 126 then (bif Nat.blt k 125 then prog_13_method_6_code else prog_13_method_3_code) else (bif Nat.blt k 127 then prog_13_method_4_code else prog_13_method_7_code))) else (bif Nat.blt k 131 then (bif Nat.blt k 129 then prog_13_method_79_code else (bif Nat.blt k 130 then prog_13_method_14_code else prog_13_method_10_code)) else (bif Nat.blt k 133 then (bif Nat.blt k 132 then prog_13_method_15_code else prog_13_method_8_code) else (bif Nat.blt k 134 then prog_13_method_12_code else prog_13_method_18_code))))) else (bif Nat.blt k 148 then (bif Nat.blt k 141 then (bif Nat.blt k 138 then (bif Nat.blt k 136 then prog_13_method_16_code else (bif Nat.blt k 137 then prog_13_method_17_code else prog_13_method_20_code)) else (bif Nat.blt k 139 then prog_13_method_19_code else (bif Nat.blt k 140 then prog_13_method_21_code else prog_13_method_30_code))) else (bif Nat.blt k 144 then (bif Nat.blt k 142 then prog_13_method_47_code else (bif Nat.blt k 143 then prog_13_method_24_code else prog_13_method_25_code)) else (bif Nat.blt k 146 then (bif Nat.blt k 145 then prog_13_method_22_code else prog_13_method_23_code) else (bif Nat.blt k 147 then prog_13_method_46_code else prog_13_method_45_code)))) else (bif Nat.blt k 155 then (bif Nat.blt k 151 then (bif Nat.blt k 149 then prog_13_method_26_code else (bif Nat.blt k 150 then prog_13_method_28_code else prog_13_method_44_code)) else (bif Nat.blt k 153 then (bif Nat.blt k 152 then prog_13_method_41_code else prog_13_method_32_code) else (bif Nat.blt k 154 then prog_13_method_27_code else prog_13_method_38_code))) else (bif Nat.blt k 158 then (bif Nat.blt k 156 then prog_13_method_40_code else (bif Nat.blt k 157 then prog_13_method_37_code else prog_13_method_39_code)) else (bif Nat.blt k 160 then (bif Nat.blt k 159 then prog_13_method_31_code else prog_13_method_42_code) else (bif Nat.blt k 161 then prog_13_method_33_code else prog_13_method_34_code)))))) else (bif Nat.blt k 189 then (bif Nat.blt k 175 then (bif Nat.blt k 168 then (bif Nat.blt k 165 then (bif Nat.blt k 163 then prog_13_method_35_code else (bif Nat.blt k 164 then prog_13_method_36_code else prog_13_method_43_code)) else (bif Nat.blt k 166 then prog_13_method_56_code else (bif Nat.blt k 167 then prog_13_method_9_code else prog_13_method_53_code))) else (bif Nat.blt k 171 then (bif Nat.blt k 169 then prog_13_method_52_code else (bif Nat.blt k 170 then prog_13_method_51_code else prog_13_method_50_code)) else (bif Nat.blt k 173 then (bif Nat.blt k 172 then prog_13_method_49_code else prog_13_method_48_code) else (bif Nat.blt k 174 then prog_13_method_54_code else prog_13_method_55_code)))) else (bif Nat.blt k 182 then (bif Nat.blt k 178 then (bif Nat.blt k 176 then prog_13_method_58_code else (bif Nat.blt k 177 then prog_13_method_57_code else prog_13_method_59_code)) else (bif Nat.blt k 180 then (bif Nat.blt k 179 then prog_13_method_62_code else prog_13_method_64_code) else (bif Nat.blt k 181 then prog_13_method_63_code else prog_13_method_61_code))) else (bif Nat.blt k 185 then (bif Nat.blt k 183 then prog_13_method_60_code else (bif Nat.blt k 184 then prog_13_method_5_code else prog_13_method_65_code)) else (bif Nat.blt k 187 then (bif Nat.blt k 186 then prog_13_method_66_code else prog_13_method_70_code) else (bif Nat.blt k 188 then prog_13_method_69_code else prog_13_method_68_code))))) else (bif Nat.blt k 202 then (bif Nat.blt k 195 then (bif Nat.blt k 192 then (bif Nat.blt k 190 then prog_13_method_67_code else (bif Nat.blt k 191 then prog_13_method_71_code else prog_13_method_72_code)) else (bif Nat.blt k 193 then prog_13_method_75_code else (bif Nat.blt k 194 then prog_13_method_74_code else prog_13_method_13_code))) else (bif Nat.blt k 198 then (bif Nat.blt k 196 then prog_13_method_73_code else (bif Nat.blt k 197 then prog_13_method_77_code else prog_13_method_76_code)) else (bif Nat.blt k 200 then (bif Nat.blt k 199 then prog_13_method_78_code else prog_13_method_11_code) else (bif Nat.blt k 201 then prog_13_method_83_code else prog_13_method_82_code)))) else (bif Nat.blt k 209 then (bif Nat.blt k 205 then (bif Nat.blt k 203 then prog_13_method_81_code else (bif Nat.blt k 204 then prog_13_method_80_code else prog_13_method_84_code)) else (bif Nat.blt k 207 then (bif Nat.blt k 206 then prog_13_method_88_code else prog_13_method_87_code) else (bif Nat.blt k 208 then prog_13_method_86_code else prog_13_method_85_code))) else (bif Nat.blt k 212 then (bif Nat.blt k 210 then prog_13_method_89_code else (bif Nat.blt k 211 then prog_13_method_90_code else prog_13_method_91_code)) else (bif Nat.blt k 214 then (bif Nat.blt k 213 then prog_13_method_92_code else prog_13_method_93_code) else (bif Nat.blt k 215 then prog_13_method_94_code else code))))))))
def x_ml : Nat → Nat := fun k => (bif Nat.blt k 108 then (bif Nat.blt k 54 then (bif Nat.blt k 27 then (bif Nat.blt k 13 then (bif Nat.blt k 6 then (bif Nat.blt k 3 then (bif Nat.blt k 1 then 3 else (bif Nat.blt k 2 then 4 else 1)) else (bif Nat.blt k 4 then 1 else (bif Nat.blt k 5 then 2 else 1))) else (bif Nat.blt k 9 then (bif Nat.blt k 7 then 2 else (bif Nat.blt k 8 then 2 else 1)) else (bif Nat.blt k 11 then (bif Nat.blt k 10 then 6 else 8) else (bif Nat.blt k 12 then 3 else 2)))) else (bif Nat.blt k 20 then (bif Nat.blt k 16 then (bif Nat.blt k 14 then 8 else (bif Nat.blt k 15 then 1 else 8)) else (bif Nat.blt k 18 then (bif Nat.blt k 17 then 3 else 5) else (bif Nat.blt k 19 then 6 else 2))) else (bif Nat.blt k 23 then (bif Nat.blt k 21 then 1 else (bif Nat.blt k 22 then 7 else 8)) else (bif Nat.blt k 25 then (bif Nat.blt k 24 then 7 else 7) else (bif Nat.blt k 26 then 5 else 1))))) else (bif Nat.blt k 40 then (bif Nat.blt k 33 then (bif Nat.blt k 30 then (bif Nat.blt k 28 then 1 else (bif Nat.blt k 29 then 3 else 2)) else (bif Nat.blt k 31 then 2 else (bif Nat.blt k 32 then 2 else 1))) else (bif Nat.blt k 36 then (bif Nat.blt k 34 then 7 else (bif Nat.blt k 35 then 5 else 2)) else (bif Nat.blt k 38 then (bif Nat.blt k 37 then 6 else 9) else (bif Nat.blt k 39 then 4 else 4)))) else (bif Nat.blt k 47 then (bif Nat.blt k 43 then (bif Nat.blt k 41 then 1 else (bif Nat.blt k 42 then 2 else 6)) else (bif Nat.blt k 45 then (bif Nat.blt k 44 then 9 else 7) else (bif Nat.blt k 46 then 1 else 6))) else (bif Nat.blt k 50 then (bif Nat.blt k 48 then 7 else (bif Nat.blt k 49 then 6 else 2)) else (bif Nat.blt k 52 then (bif Nat.blt k 51 then 1 else 3) else (bif Nat.blt k 53 then 5 else 1)))))) else (bif Nat.blt k 81 then (bif Nat.blt k 67 then (bif Nat.blt k 60 then (bif Nat.blt k 57 then (bif Nat.blt k 55 then 5 else (bif Nat.blt k 56 then 3 else 5)) else (bif Nat.blt k 58 then 4 else (bif Nat.blt k 59 then 3 else 1))) else (bif Nat.blt k 63 then (bif Nat.blt k 61 then 5 else (bif Nat.blt k 62 then 2 else 1)) else (bif Nat.blt k 65 then (bif Nat.blt k 64 then 4 else 4) else (bif Nat.blt k 66 then 3 else 4)))) else (bif Nat.blt k 74 then (bif Nat.blt k 70 then (bif Nat.blt k 68 then 4 else (bif Nat.blt k 69 then 4 else 3)) else (bif Nat.blt k 72 then (bif Nat.blt k 71 then 1 else 4) else (bif Nat.blt k 73 then 3 else 2))) else (bif Nat.blt k 77 then (bif Nat.blt k 75 then 6 else (bif Nat.blt k 76 then 2 else 1)) else (bif Nat.blt k 79 then (bif Nat.blt k 78 then 3 else 2) else (bif Nat.blt k 80 then 1 else 9))))) else (bif Nat.blt k 94 then (bif Nat.blt k 87 then (bif Nat.blt k 84 then (bif Nat.blt k 82 then 3 else (bif Nat.blt k 83 then 2 else 3)) else (bif Nat.blt k 85 then 2 else (bif Nat.blt k 86 then 3 else 2))) else (bif Nat.blt k 90 then (bif Nat.blt k 88 then 4 else (bif Nat.blt k 89 then 6 else 2)) else (bif Nat.blt k 92 then (bif Nat.blt k 91 then 1 else 1) else (bif Nat.blt k 93 then 4 else 1)))) else (bif Nat.blt k 101 then (bif Nat.blt k 97 then (bif Nat.blt k 95 then 3 else (bif Nat.blt k 96 then 4 else 3)) else (bif Nat.blt k 99 then (bif Nat.blt k 98 then 4 else 3) else (bif Nat.blt k 100 then 4 else 2))) else (bif Nat.blt k 104 then (bif Nat.blt k 102 then 2 else (bif Nat.blt k 103 then 3 else 2)) else (bif Nat.blt k 106 then (bif Nat.blt k 105 then 3 else 3) else (bif Nat.blt k 107 then 3 else 3))))))) else (bif Nat.blt k 162 then (bif Nat.blt k 135 then (bif Nat.blt k 121 then (bif Nat.blt k 114 then (bif Nat.blt k 111 then (bif Nat.blt k 109 then 6 else (bif Nat.blt k 110 then 1 else 4)) else (bif Nat.blt k 112 then 3 else (bif Nat.blt k 113 then 2 else 1))) else (bif Nat.blt k 117 then (bif Nat.blt k 115 then 2 else (bif Nat.blt k 116 then 5 else 1)) else (bif Nat.blt k 119 then (bif Nat.blt k 118 then 3 else 2) else (bif Nat.blt k 120 then 3 else 3)))) else (bif Nat.blt k 128 then (bif Nat.blt k 124 then (bif Nat.blt k 122 then 2 else (bif Nat.blt k 123 then 1 else 1)) else (bif Nat.blt k 126 then (bif Nat.blt k 125 then 3 else 6) else (bif Nat.blt k 127 then 2 else 3))) else (bif Nat.blt k 131 then (bif Nat.blt k 129 then 1 else (bif Nat.blt k 130 then 8 else 1)) else (bif Nat.blt k 133 then (bif Nat.blt k 132 then 3 else 2) else (bif Nat.blt k 134 then 4 else 4))))) else (bif Nat.blt k 148 then (bif Nat.blt k 141 then (bif Nat.blt k 138 then (bif Nat.blt k 136 then 1 else (bif Nat.blt k 137 then 1 else 6)) else (bif Nat.blt k 139 then 3 else (bif Nat.blt k 140 then 2 else 1))) else (bif Nat.blt k 144 then (bif Nat.blt k 142 then 2 else (bif Nat.blt k 143 then 1 else 1)) else (bif Nat.blt k 146 then (bif Nat.blt k 145 then 1 else 1) else (bif Nat.blt k 147 then 4 else 1)))) else (bif Nat.blt k 155 then (bif Nat.blt k 151 then (bif Nat.blt k 149 then 3 else (bif Nat.blt k 150 then 2 else 3)) else (bif Nat.blt k 153 then (bif Nat.blt k 152 then 1 else 3) else (bif Nat.blt k 154 then 2 else 2))) else (bif Nat.blt k 158 then (bif Nat.blt k 156 then 3 else (bif Nat.blt k 157 then 1 else 4)) else (bif Nat.blt k 160 then (bif Nat.blt k 159 then 3 else 4) else (bif Nat.blt k 161 then 1 else 2)))))) else (bif Nat.blt k 189 then (bif Nat.blt k 175 then (bif Nat.blt k 168 then (bif Nat.blt k 165 then (bif Nat.blt k 163 then 3 else (bif Nat.blt k 164 then 2 else 2)) else (bif Nat.blt k 166 then 4 else (bif Nat.blt k 167 then 1 else 3))) else (bif Nat.blt k 171 then (bif Nat.blt k 169 then 4 else (bif Nat.blt k 170 then 9 else 2)) else (bif Nat.blt k 173 then (bif Nat.blt k 172 then 7 else 6) else (bif Nat.blt k 174 then 3 else 3)))) else (bif Nat.blt k 182 then (bif Nat.blt k 178 then (bif Nat.blt k 176 then 3 else (bif Nat.blt k 177 then 6 else 4)) else (bif Nat.blt k 180 then (bif Nat.blt k 179 then 4 else 5) else (bif Nat.blt k 181 then 4 else 3))) else (bif Nat.blt k 185 then (bif Nat.blt k 183 then 4 else (bif Nat.blt k 184 then 2 else 3)) else (bif Nat.blt k 187 then (bif Nat.blt k 186 then 2 else 7) else (bif Nat.blt k 188 then 4 else 10))))) else (bif Nat.blt k 202 then (bif Nat.blt k 195 then (bif Nat.blt k 192 then (bif Nat.blt k 190 then 6 else (bif Nat.blt k 191 then 5 else 7)) else (bif Nat.blt k 193 then 3 else (bif Nat.blt k 194 then 4 else 1))) else (bif Nat.blt k 198 then (bif Nat.blt k 196 then 3 else (bif Nat.blt k 197 then 9 else 2)) else (bif Nat.blt k 200 then (bif Nat.blt k 199 then 5 else 1) else (bif Nat.blt k 201 then 5 else 10)))) else (bif Nat.blt k 209 then (bif Nat.blt k 205 then (bif Nat.blt k 203 then 4 else (bif Nat.blt k 204 then 5 else 3)) else (bif Nat.blt k 207 then (bif Nat.blt k 206 then 11 else 4) else (bif Nat.blt k 208 then 7 else 3))) else (bif Nat.blt k 212 then (bif Nat.blt k 210 then 5 else (bif Nat.blt k 211 then 6 else 7)) else (bif Nat.blt k 214 then (bif Nat.blt k 213 then 3 else 2) else (bif Nat.blt k 215 then 1 else 4))))))))
def x_rt : Nat → Option FieldType := fun k => (bif Nat.blt k 108 then (bif Nat.blt k 54 then (bif Nat.blt k 27 then (bif Nat.blt k 13 then (bif Nat.blt k 6 then (bif Nat.blt k 3 then (bif Nat.blt k 1 then (some .int) else (bif Nat.blt k 2 then none else (some .int))) else (bif Nat.blt k 4 then (some .byte) else (bif Nat.blt k 5 then (some .char) else (some .boolean)))) else (bif Nat.blt k 9 then (bif Nat.blt k 7 then none else (bif Nat.blt k 8 then (some .char) else none)) else (bif Nat.blt k 11 then (bif Nat.blt k 10 then none else (some .boolean)) else (bif Nat.blt k 12 then (some .boolean) else (some .boolean))))) else (bif Nat.blt k 20 then (bif Nat.blt k 16 then (bif Nat.blt k 14 then (some .boolean) else (bif Nat.blt k 15 then none else none)) else (bif Nat.blt k 18 then (bif Nat.blt k 17 then none else (some .int)) else (bif Nat.blt k 19 then (some .int) else (some .boolean)))) else (bif Nat.blt k 23 then (bif Nat.blt k 21 then none else (bif Nat.blt k 22 then none else none)) else (bif Nat.blt k 25 then (bif Nat.blt k 24 then (some .int) else (some .int)) else (bif Nat.blt k 26 then none else none))))) else (bif Nat.blt k 40 then (bif Nat.blt k 33 then (bif Nat.blt k 30 then (bif Nat.blt k 28 then none else (bif Nat.blt k 29 then none else none)) else (bif Nat.blt k 31 then none else (bif Nat.blt k 32 then none else none))) else (bif Nat.blt k 36 then (bif Nat.blt k 34 then none else (bif Nat.blt k 35 then (some .int) else (some .int))) else (bif Nat.blt k 38 then (bif Nat.blt k 37 then none else (some .int)) else (bif Nat.blt k 39 then none else none)))) else (bif Nat.blt k 47 then (bif Nat.blt k 43 then (bif Nat.blt k 41 then none else (bif Nat.blt k 42 then none else none)) else (bif Nat.blt k 45 then (bif Nat.blt k 44 then none else none) else (bif Nat.blt k 46 then none else none))) else (bif Nat.blt k 50 then (bif Nat.blt k 48 then (some .int) else (bif Nat.blt k 49 then none else (some .int))) else (bif Nat.blt k 52 then (bif Nat.blt k 51 then none else (some .int)) else (bif Nat.blt k 53 then none else (some .boolean))))))) else (bif Nat.blt k 81 then (bif Nat.blt k 67 then (bif Nat.blt k 60 then (bif Nat.blt k 57 then (bif Nat.blt k 55 then none else (bif Nat.blt k 56 then (some .int) else (some .boolean))) else (bif Nat.blt k 58 then none else (bif Nat.blt k 59 then (some .int) else (some .boolean)))) else (bif Nat.blt k 63 then (bif Nat.blt k 61 then (some .int) else (bif Nat.blt k 62 then (some .boolean) else none)) else (bif Nat.blt k 65 then (bif Nat.blt k 64 then (some .boolean) else (some .boolean)) else (bif Nat.blt k 66 then (some .boolean) else (some .boolean))))) else (bif Nat.blt k 74 then (bif Nat.blt k 70 then (bif Nat.blt k 68 then (some .boolean) else (bif Nat.blt k 69 then (some .boolean) else (some .boolean))) else (bif Nat.blt k 72 then (bif Nat.blt k 71 then none else none) else (bif Nat.blt k 73 then (some .int) else none))) else (bif Nat.blt k 77 then (bif Nat.blt k 75 then (some .int) else (bif Nat.blt k 76 then none else none)) else (bif Nat.blt k 79 then (bif Nat.blt k 78 then none else (some .int)) else (bif Nat.blt k 80 then none else (some .int)))))) else (bif Nat.blt k 94 then (bif Nat.blt k 87 then (bif Nat.blt k 84 then (bif Nat.blt k 82 then (some .boolean) else (bif Nat.blt k 83 then (some .int) else (some .int))) else (bif Nat.blt k 85 then (some .int) else (bif Nat.blt k 86 then (some .int) else (some .boolean)))) else (bif Nat.blt k 90 then (bif Nat.blt k 88 then (some .int) else (bif Nat.blt k 89 then (some .int) else (some .int))) else (bif Nat.blt k 92 then (bif Nat.blt k 91 then (some .int) else (some .int)) else (bif Nat.blt k 93 then (some .int) else (some .boolean))))) else (bif Nat.blt k 101 then (bif Nat.blt k 97 then (bif Nat.blt k 95 then (some .int) else (bif Nat.blt k 96 then (some .int) else (some .boolean))) else (bif Nat.blt k 99 then (bif Nat.blt k 98 then (some .int) else (some .int)) else (bif Nat.blt k 100 then (some .int) else (some .int)))) else (bif Nat.blt k 104 then (bif Nat.blt k 102 then (some .int) else (bif Nat.blt k 103 then (some .int) else (some .boolean))) else (bif Nat.blt k 106 then (bif Nat.blt k 105 then (some .int) else (some .int)) else (bif Nat.blt k 107 then (some .int) else (some .int)))))))) else (bif Nat.blt k 162 then (bif Nat.blt k 135 then (bif Nat.blt k 121 then (bif Nat.blt k 114 then (bif Nat.blt k 111 then (bif Nat.blt k 109 then (some .int) else (bif Nat.blt k 110 then (some .boolean) else (some .int))) else (bif Nat.blt k 112 then (some .int) else (bif Nat.blt k 113 then (some .int) else none))) else (bif Nat.blt k 117 then (bif Nat.blt k 115 then (some .int) else (bif Nat.blt k 116 then (some .int) else (some .boolean))) else (bif Nat.blt k 119 then (bif Nat.blt k 118 then (some .int) else (some .int)) else (bif Nat.blt k 120 then (some .int) else (some .int))))) else (bif Nat.blt k 128 then (bif Nat.blt k 124 then (bif Nat.blt k 122 then (some .int) else (bif Nat.blt k 123 then (some .int) else none)) else (bif Nat.blt k 126 then (bif Nat.blt k 125 then (some .int) else (some .boolean)) else (bif Nat.blt k 127 then (some .int) else (some .int)))) else (bif Nat.blt k 131 then (bif Nat.blt k 129 then none else (bif Nat.blt k 130 then (some .int) else (some .int))) else (bif Nat.blt k 133 then (bif Nat.blt k 132 then (some .int) else (some .boolean)) else (bif Nat.blt k 134 then (some .int) else (some .int)))))) else (bif Nat.blt k 148 then (bif Nat.blt k 141 then (bif Nat.blt k 138 then (bif Nat.blt k 136 then (some .int) else (bif Nat.blt k 137 then (some .int) else (some .int))) else (bif Nat.blt k 139 then none else (bif Nat.blt k 140 then (some .int) else (some .int)))) else (bif Nat.blt k 144 then (bif Nat.blt k 142 then (some .int) else (bif Nat.blt k 143 then none else none)) else (bif Nat.blt k 146 then (bif Nat.blt k 145 then (some .boolean) else (some .boolean)) else (bif Nat.blt k 147 then none else (some .int))))) else (bif Nat.blt k 155 then (bif Nat.blt k 151 then (bif Nat.blt k 149 then (some .boolean) else (bif Nat.blt k 150 then none else none)) else (bif Nat.blt k 153 then (bif Nat.blt k 152 then (some .int) else none) else (bif Nat.blt k 154 then (some .boolean) else none))) else (bif Nat.blt k 158 then (bif Nat.blt k 156 then (some .int) else (bif Nat.blt k 157 then (some .int) else none)) else (bif Nat.blt k 160 then (bif Nat.blt k 159 then none else (some .int)) else (bif Nat.blt k 161 then (some .int) else none)))))) else (bif Nat.blt k 189 then (bif Nat.blt k 175 then (bif Nat.blt k 168 then (bif Nat.blt k 165 then (bif Nat.blt k 163 then (some .int) else (bif Nat.blt k 164 then (some .boolean) else (some .int))) else (bif Nat.blt k 166 then (some .int) else (bif Nat.blt k 167 then (some .boolean) else (some .int)))) else (bif Nat.blt k 171 then (bif Nat.blt k 169 then none else (bif Nat.blt k 170 then (some .int) else (some .boolean))) else (bif Nat.blt k 173 then (bif Nat.blt k 172 then none else (some .long)) else (bif Nat.blt k 174 then (some .int) else (some .int))))) else (bif Nat.blt k 182 then (bif Nat.blt k 178 then (bif Nat.blt k 176 then (some .int) else (bif Nat.blt k 177 then none else (some .int))) else (bif Nat.blt k 180 then (bif Nat.blt k 179 then (some .int) else (some .int)) else (bif Nat.blt k 181 then (some .int) else (some .int)))) else (bif Nat.blt k 185 then (bif Nat.blt k 183 then (some .int) else (bif Nat.blt k 184 then (some .int) else (some .int))) else (bif Nat.blt k 187 then (bif Nat.blt k 186 then (some .int) else (some .int)) else (bif Nat.blt k 188 then (some .boolean) else none))))) else (bif Nat.blt k 202 then (bif Nat.blt k 195 then (bif Nat.blt k 192 then (bif Nat.blt k 190 then (some .int) else (bif Nat.blt k 191 then (some .int) else (some .int))) else (bif Nat.blt k 193 then (some .int) else (bif Nat.blt k 194 then (some .int) else (some .int)))) else (bif Nat.blt k 198 then (bif Nat.blt k 196 then (some .int) else (bif Nat.blt k 197 then (some .int) else (some .int))) else (bif Nat.blt k 200 then (bif Nat.blt k 199 then (some .int) else (some .boolean)) else (bif Nat.blt k 201 then (some .int) else none)))) else (bif Nat.blt k 209 then (bif Nat.blt k 205 then (bif Nat.blt k 203 then none else (bif Nat.blt k 204 then (some .boolean) else (some .int))) else (bif Nat.blt k 207 then (bif Nat.blt k 206 then (some .int) else none) else (bif Nat.blt k 208 then none else (some .int)))) else (bif Nat.blt k 212 then (bif Nat.blt k 210 then (some .int) else (bif Nat.blt k 211 then (some .int) else (some .int))) else (bif Nat.blt k 214 then (bif Nat.blt k 213 then (some .int) else (some .int)) else (bif Nat.blt k 215 then (some .int) else (some .boolean)))))))))
def x_na : Nat → Nat := fun k => (bif Nat.blt k 108 then (bif Nat.blt k 54 then (bif Nat.blt k 27 then (bif Nat.blt k 13 then (bif Nat.blt k 6 then (bif Nat.blt k 3 then (bif Nat.blt k 1 then 3 else (bif Nat.blt k 2 then 2 else 1)) else (bif Nat.blt k 4 then 1 else (bif Nat.blt k 5 then 2 else 1))) else (bif Nat.blt k 9 then (bif Nat.blt k 7 then 2 else (bif Nat.blt k 8 then 2 else 1)) else (bif Nat.blt k 11 then (bif Nat.blt k 10 then 4 else 4) else (bif Nat.blt k 12 then 3 else 2)))) else (bif Nat.blt k 20 then (bif Nat.blt k 16 then (bif Nat.blt k 14 then 4 else (bif Nat.blt k 15 then 1 else 4)) else (bif Nat.blt k 18 then (bif Nat.blt k 17 then 3 else 3) else (bif Nat.blt k 19 then 4 else 2))) else (bif Nat.blt k 23 then (bif Nat.blt k 21 then 1 else (bif Nat.blt k 22 then 3 else 3)) else (bif Nat.blt k 25 then (bif Nat.blt k 24 then 5 else 6) else (bif Nat.blt k 26 then 3 else 1))))) else (bif Nat.blt k 40 then (bif Nat.blt k 33 then (bif Nat.blt k 30 then (bif Nat.blt k 28 then 1 else (bif Nat.blt k 29 then 3 else 2)) else (bif Nat.blt k 31 then 2 else (bif Nat.blt k 32 then 2 else 1))) else (bif Nat.blt k 36 then (bif Nat.blt k 34 then 3 else (bif Nat.blt k 35 then 4 else 2)) else (bif Nat.blt k 38 then (bif Nat.blt k 37 then 4 else 5) else (bif Nat.blt k 39 then 2 else 3)))) else (bif Nat.blt k 47 then (bif Nat.blt k 43 then (bif Nat.blt k 41 then 1 else (bif Nat.blt k 42 then 1 else 3)) else (bif Nat.blt k 45 then (bif Nat.blt k 44 then 5 else 4) else (bif Nat.blt k 46 then 1 else 3))) else (bif Nat.blt k 50 then (bif Nat.blt k 48 then 4 else (bif Nat.blt k 49 then 3 else 2)) else (bif Nat.blt k 52 then (bif Nat.blt k 51 then 1 else 2) else (bif Nat.blt k 53 then 2 else 1)))))) else (bif Nat.blt k 81 then (bif Nat.blt k 67 then (bif Nat.blt k 60 then (bif Nat.blt k 57 then (bif Nat.blt k 55 then 4 else (bif Nat.blt k 56 then 3 else 4)) else (bif Nat.blt k 58 then 4 else (bif Nat.blt k 59 then 3 else 1))) else (bif Nat.blt k 63 then (bif Nat.blt k 61 then 3 else (bif Nat.blt k 62 then 1 else 1)) else (bif Nat.blt k 65 then (bif Nat.blt k 64 then 2 else 2) else (bif Nat.blt k 66 then 2 else 2)))) else (bif Nat.blt k 74 then (bif Nat.blt k 70 then (bif Nat.blt k 68 then 2 else (bif Nat.blt k 69 then 2 else 2)) else (bif Nat.blt k 72 then (bif Nat.blt k 71 then 1 else 1) else (bif Nat.blt k 73 then 3 else 2))) else (bif Nat.blt k 77 then (bif Nat.blt k 75 then 3 else (bif Nat.blt k 76 then 2 else 1)) else (bif Nat.blt k 79 then (bif Nat.blt k 78 then 2 else 1) else (bif Nat.blt k 80 then 1 else 7))))) else (bif Nat.blt k 94 then (bif Nat.blt k 87 then (bif Nat.blt k 84 then (bif Nat.blt k 82 then 3 else (bif Nat.blt k 83 then 2 else 3)) else (bif Nat.blt k 85 then 2 else (bif Nat.blt k 86 then 3 else 2))) else (bif Nat.blt k 90 then (bif Nat.blt k 88 then 3 else (bif Nat.blt k 89 then 6 else 2)) else (bif Nat.blt k 92 then (bif Nat.blt k 91 then 1 else 1) else (bif Nat.blt k 93 then 4 else 1)))) else (bif Nat.blt k 101 then (bif Nat.blt k 97 then (bif Nat.blt k 95 then 3 else (bif Nat.blt k 96 then 4 else 3)) else (bif Nat.blt k 99 then (bif Nat.blt k 98 then 3 else 3) else (bif Nat.blt k 100 then 3 else 1))) else (bif Nat.blt k 104 then (bif Nat.blt k 102 then 2 else (bif Nat.blt k 103 then 3 else 2)) else (bif Nat.blt k 106 then (bif Nat.blt k 105 then 3 else 3) else (bif Nat.blt k 107 then 3 else 3))))))) else (bif Nat.blt k 162 then (bif Nat.blt k 135 then (bif Nat.blt k 121 then (bif Nat.blt k 114 then (bif Nat.blt k 111 then (bif Nat.blt k 109 then 2 else (bif Nat.blt k 110 then 1 else 3)) else (bif Nat.blt k 112 then 3 else (bif Nat.blt k 113 then 2 else 1))) else (bif Nat.blt k 117 then (bif Nat.blt k 115 then 2 else (bif Nat.blt k 116 then 4 else 1)) else (bif Nat.blt k 119 then (bif Nat.blt k 118 then 3 else 1) else (bif Nat.blt k 120 then 2 else 2)))) else (bif Nat.blt k 128 then (bif Nat.blt k 124 then (bif Nat.blt k 122 then 2 else (bif Nat.blt k 123 then 1 else 1)) else (bif Nat.blt k 126 then (bif Nat.blt k 125 then 2 else 3) else (bif Nat.blt k 127 then 2 else 2))) else (bif Nat.blt k 131 then (bif Nat.blt k 129 then 1 else (bif Nat.blt k 130 then 7 else 1)) else (bif Nat.blt k 133 then (bif Nat.blt k 132 then 3 else 2) else (bif Nat.blt k 134 then 2 else 3))))) else (bif Nat.blt k 148 then (bif Nat.blt k 141 then (bif Nat.blt k 138 then (bif Nat.blt k 136 then 1 else (bif Nat.blt k 137 then 1 else 6)) else (bif Nat.blt k 139 then 2 else (bif Nat.blt k 140 then 2 else 1))) else (bif Nat.blt k 144 then (bif Nat.blt k 142 then 1 else (bif Nat.blt k 143 then 1 else 1)) else (bif Nat.blt k 146 then (bif Nat.blt k 145 then 1 else 1) else (bif Nat.blt k 147 then 1 else 1)))) else (bif Nat.blt k 155 then (bif Nat.blt k 151 then (bif Nat.blt k 149 then 2 else (bif Nat.blt k 150 then 2 else 2)) else (bif Nat.blt k 153 then (bif Nat.blt k 152 then 1 else 3) else (bif Nat.blt k 154 then 2 else 2))) else (bif Nat.blt k 158 then (bif Nat.blt k 156 then 1 else (bif Nat.blt k 157 then 1 else 4)) else (bif Nat.blt k 160 then (bif Nat.blt k 159 then 3 else 2) else (bif Nat.blt k 161 then 1 else 2)))))) else (bif Nat.blt k 189 then (bif Nat.blt k 175 then (bif Nat.blt k 168 then (bif Nat.blt k 165 then (bif Nat.blt k 163 then 1 else (bif Nat.blt k 164 then 1 else 1)) else (bif Nat.blt k 166 then 4 else (bif Nat.blt k 167 then 1 else 3))) else (bif Nat.blt k 171 then (bif Nat.blt k 169 then 3 else (bif Nat.blt k 170 then 5 else 2)) else (bif Nat.blt k 173 then (bif Nat.blt k 172 then 3 else 4) else (bif Nat.blt k 174 then 3 else 3)))) else (bif Nat.blt k 182 then (bif Nat.blt k 178 then (bif Nat.blt k 176 then 3 else (bif Nat.blt k 177 then 2 else 4)) else (bif Nat.blt k 180 then (bif Nat.blt k 179 then 3 else 3) else (bif Nat.blt k 181 then 3 else 3))) else (bif Nat.blt k 185 then (bif Nat.blt k 183 then 2 else (bif Nat.blt k 184 then 1 else 1)) else (bif Nat.blt k 187 then (bif Nat.blt k 186 then 2 else 3) else (bif Nat.blt k 188 then 2 else 3))))) else (bif Nat.blt k 202 then (bif Nat.blt k 195 then (bif Nat.blt k 192 then (bif Nat.blt k 190 then 3 else (bif Nat.blt k 191 then 3 else 3)) else (bif Nat.blt k 193 then 3 else (bif Nat.blt k 194 then 2 else 1))) else (bif Nat.blt k 198 then (bif Nat.blt k 196 then 2 else (bif Nat.blt k 197 then 3 else 2)) else (bif Nat.blt k 200 then (bif Nat.blt k 199 then 2 else 1) else (bif Nat.blt k 201 then 3 else 2)))) else (bif Nat.blt k 209 then (bif Nat.blt k 205 then (bif Nat.blt k 203 then 1 else (bif Nat.blt k 204 then 4 else 3)) else (bif Nat.blt k 207 then (bif Nat.blt k 206 then 2 else 1) else (bif Nat.blt k 208 then 3 else 3))) else (bif Nat.blt k 212 then (bif Nat.blt k 210 then 2 else (bif Nat.blt k 211 then 4 else 3)) else (bif Nat.blt k 214 then (bif Nat.blt k 213 then 1 else 2) else (bif Nat.blt k 215 then 1 else 1))))))))
def x_np : Nat → Nat := fun k => (bif Nat.blt k 108 then (bif Nat.blt k 54 then (bif Nat.blt k 27 then (bif Nat.blt k 13 then (bif Nat.blt k 6 then (bif Nat.blt k 3 then (bif Nat.blt k 1 then 3 else (bif Nat.blt k 2 then 2 else 0)) else (bif Nat.blt k 4 then 0 else (bif Nat.blt k 5 then 1 else 0))) else (bif Nat.blt k 9 then (bif Nat.blt k 7 then 2 else (bif Nat.blt k 8 then 2 else 0)) else (bif Nat.blt k 11 then (bif Nat.blt k 10 then 3 else 3) else (bif Nat.blt k 12 then 2 else 1)))) else (bif Nat.blt k 20 then (bif Nat.blt k 16 then (bif Nat.blt k 14 then 3 else (bif Nat.blt k 15 then 0 else 3)) else (bif Nat.blt k 18 then (bif Nat.blt k 17 then 2 else 2) else (bif Nat.blt k 19 then 3 else 1))) else (bif Nat.blt k 23 then (bif Nat.blt k 21 then 0 else (bif Nat.blt k 22 then 2 else 2)) else (bif Nat.blt k 25 then (bif Nat.blt k 24 then 4 else 5) else (bif Nat.blt k 26 then 2 else 0))))) else (bif Nat.blt k 40 then (bif Nat.blt k 33 then (bif Nat.blt k 30 then (bif Nat.blt k 28 then 0 else (bif Nat.blt k 29 then 2 else 1)) else (bif Nat.blt k 31 then 1 else (bif Nat.blt k 32 then 1 else 0))) else (bif Nat.blt k 36 then (bif Nat.blt k 34 then 2 else (bif Nat.blt k 35 then 4 else 2)) else (bif Nat.blt k 38 then (bif Nat.blt k 37 then 3 else 4) else (bif Nat.blt k 39 then 1 else 2)))) else (bif Nat.blt k 47 then (bif Nat.blt k 43 then (bif Nat.blt k 41 then 0 else (bif Nat.blt k 42 then 0 else 2)) else (bif Nat.blt k 45 then (bif Nat.blt k 44 then 4 else 3) else (bif Nat.blt k 46 then 0 else 2))) else (bif Nat.blt k 50 then (bif Nat.blt k 48 then 3 else (bif Nat.blt k 49 then 2 else 2)) else (bif Nat.blt k 52 then (bif Nat.blt k 51 then 0 else 1) else (bif Nat.blt k 53 then 1 else 1)))))) else (bif Nat.blt k 81 then (bif Nat.blt k 67 then (bif Nat.blt k 60 then (bif Nat.blt k 57 then (bif Nat.blt k 55 then 3 else (bif Nat.blt k 56 then 3 else 4)) else (bif Nat.blt k 58 then 3 else (bif Nat.blt k 59 then 3 else 1))) else (bif Nat.blt k 63 then (bif Nat.blt k 61 then 3 else (bif Nat.blt k 62 then 0 else 0)) else (bif Nat.blt k 65 then (bif Nat.blt k 64 then 1 else 1) else (bif Nat.blt k 66 then 1 else 1)))) else (bif Nat.blt k 74 then (bif Nat.blt k 70 then (bif Nat.blt k 68 then 1 else (bif Nat.blt k 69 then 1 else 1)) else (bif Nat.blt k 72 then (bif Nat.blt k 71 then 0 else 0) else (bif Nat.blt k 73 then 2 else 2))) else (bif Nat.blt k 77 then (bif Nat.blt k 75 then 2 else (bif Nat.blt k 76 then 1 else 0)) else (bif Nat.blt k 79 then (bif Nat.blt k 78 then 1 else 0) else (bif Nat.blt k 80 then 0 else 6))))) else (bif Nat.blt k 94 then (bif Nat.blt k 87 then (bif Nat.blt k 84 then (bif Nat.blt k 82 then 3 else (bif Nat.blt k 83 then 1 else 3)) else (bif Nat.blt k 85 then 1 else (bif Nat.blt k 86 then 2 else 1))) else (bif Nat.blt k 90 then (bif Nat.blt k 88 then 2 else (bif Nat.blt k 89 then 5 else 1)) else (bif Nat.blt k 92 then (bif Nat.blt k 91 then 0 else 0) else (bif Nat.blt k 93 then 3 else 1)))) else (bif Nat.blt k 101 then (bif Nat.blt k 97 then (bif Nat.blt k 95 then 2 else (bif Nat.blt k 96 then 3 else 2)) else (bif Nat.blt k 99 then (bif Nat.blt k 98 then 2 else 2) else (bif Nat.blt k 100 then 3 else 0))) else (bif Nat.blt k 104 then (bif Nat.blt k 102 then 1 else (bif Nat.blt k 103 then 2 else 1)) else (bif Nat.blt k 106 then (bif Nat.blt k 105 then 2 else 2) else (bif Nat.blt k 107 then 2 else 2))))))) else (bif Nat.blt k 162 then (bif Nat.blt k 135 then (bif Nat.blt k 121 then (bif Nat.blt k 114 then (bif Nat.blt k 111 then (bif Nat.blt k 109 then 1 else (bif Nat.blt k 110 then 1 else 2)) else (bif Nat.blt k 112 then 2 else (bif Nat.blt k 113 then 1 else 0))) else (bif Nat.blt k 117 then (bif Nat.blt k 115 then 1 else (bif Nat.blt k 116 then 3 else 1)) else (bif Nat.blt k 119 then (bif Nat.blt k 118 then 2 else 0) else (bif Nat.blt k 120 then 1 else 1)))) else (bif Nat.blt k 128 then (bif Nat.blt k 124 then (bif Nat.blt k 122 then 1 else (bif Nat.blt k 123 then 0 else 0)) else (bif Nat.blt k 126 then (bif Nat.blt k 125 then 1 else 3) else (bif Nat.blt k 127 then 1 else 1))) else (bif Nat.blt k 131 then (bif Nat.blt k 129 then 0 else (bif Nat.blt k 130 then 6 else 1)) else (bif Nat.blt k 133 then (bif Nat.blt k 132 then 2 else 1) else (bif Nat.blt k 134 then 1 else 2))))) else (bif Nat.blt k 148 then (bif Nat.blt k 141 then (bif Nat.blt k 138 then (bif Nat.blt k 136 then 1 else (bif Nat.blt k 137 then 1 else 5)) else (bif Nat.blt k 139 then 1 else (bif Nat.blt k 140 then 1 else 0))) else (bif Nat.blt k 144 then (bif Nat.blt k 142 then 0 else (bif Nat.blt k 143 then 0 else 0)) else (bif Nat.blt k 146 then (bif Nat.blt k 145 then 1 else 1) else (bif Nat.blt k 147 then 0 else 0)))) else (bif Nat.blt k 155 then (bif Nat.blt k 151 then (bif Nat.blt k 149 then 1 else (bif Nat.blt k 150 then 1 else 1)) else (bif Nat.blt k 153 then (bif Nat.blt k 152 then 0 else 2) else (bif Nat.blt k 154 then 1 else 1))) else (bif Nat.blt k 158 then (bif Nat.blt k 156 then 0 else (bif Nat.blt k 157 then 0 else 3)) else (bif Nat.blt k 160 then (bif Nat.blt k 159 then 2 else 1) else (bif Nat.blt k 161 then 1 else 1)))))) else (bif Nat.blt k 189 then (bif Nat.blt k 175 then (bif Nat.blt k 168 then (bif Nat.blt k 165 then (bif Nat.blt k 163 then 0 else (bif Nat.blt k 164 then 0 else 0)) else (bif Nat.blt k 166 then 3 else (bif Nat.blt k 167 then 1 else 2))) else (bif Nat.blt k 171 then (bif Nat.blt k 169 then 2 else (bif Nat.blt k 170 then 4 else 1)) else (bif Nat.blt k 173 then (bif Nat.blt k 172 then 2 else 3) else (bif Nat.blt k 174 then 2 else 2)))) else (bif Nat.blt k 182 then (bif Nat.blt k 178 then (bif Nat.blt k 176 then 2 else (bif Nat.blt k 177 then 1 else 3)) else (bif Nat.blt k 180 then (bif Nat.blt k 179 then 2 else 2) else (bif Nat.blt k 181 then 2 else 2))) else (bif Nat.blt k 185 then (bif Nat.blt k 183 then 1 else (bif Nat.blt k 184 then 1 else 0)) else (bif Nat.blt k 187 then (bif Nat.blt k 186 then 1 else 2) else (bif Nat.blt k 188 then 1 else 2))))) else (bif Nat.blt k 202 then (bif Nat.blt k 195 then (bif Nat.blt k 192 then (bif Nat.blt k 190 then 2 else (bif Nat.blt k 191 then 2 else 2)) else (bif Nat.blt k 193 then 2 else (bif Nat.blt k 194 then 1 else 0))) else (bif Nat.blt k 198 then (bif Nat.blt k 196 then 1 else (bif Nat.blt k 197 then 2 else 1)) else (bif Nat.blt k 200 then (bif Nat.blt k 199 then 1 else 1) else (bif Nat.blt k 201 then 2 else 1)))) else (bif Nat.blt k 209 then (bif Nat.blt k 205 then (bif Nat.blt k 203 then 0 else (bif Nat.blt k 204 then 3 else 2)) else (bif Nat.blt k 207 then (bif Nat.blt k 206 then 1 else 0) else (bif Nat.blt k 208 then 2 else 2))) else (bif Nat.blt k 212 then (bif Nat.blt k 210 then 1 else (bif Nat.blt k 211 then 3 else 2)) else (bif Nat.blt k 214 then (bif Nat.blt k 213 then 0 else 1) else (bif Nat.blt k 215 then 0 else 1))))))))
def x_ow : Nat → Nat := fun k => (bif Nat.blt k 108 then (bif Nat.blt k 54 then (bif Nat.blt k 27 then (bif Nat.blt k 13 then (bif Nat.blt k 6 then (bif Nat.blt k 3 then (bif Nat.blt k 1 then 16 else (bif Nat.blt k 2 then 13 else 14)) else (bif Nat.blt k 4 then 14 else (bif Nat.blt k 5 then 14 else 14))) else (bif Nat.blt k 9 then (bif Nat.blt k 7 then 14 else (bif Nat.blt k 8 then 15 else 0)) else (bif Nat.blt k 11 then (bif Nat.blt k 10 then 0 else 0) else (bif Nat.blt k 12 then 0 else 0)))) else (bif Nat.blt k 20 then (bif Nat.blt k 16 then (bif Nat.blt k 14 then 0 else (bif Nat.blt k 15 then 1 else 1)) else (bif Nat.blt k 18 then (bif Nat.blt k 17 then 1 else 1) else (bif Nat.blt k 19 then 1 else 1))) else (bif Nat.blt k 23 then (bif Nat.blt k 21 then 2 else (bif Nat.blt k 22 then 2 else 2)) else (bif Nat.blt k 25 then (bif Nat.blt k 24 then 2 else 2) else (bif Nat.blt k 26 then 2 else 3))))) else (bif Nat.blt k 40 then (bif Nat.blt k 33 then (bif Nat.blt k 30 then (bif Nat.blt k 28 then 3 else (bif Nat.blt k 29 then 3 else 3)) else (bif Nat.blt k 31 then 3 else (bif Nat.blt k 32 then 3 else 4))) else (bif Nat.blt k 36 then (bif Nat.blt k 34 then 4 else (bif Nat.blt k 35 then 4 else 4)) else (bif Nat.blt k 38 then (bif Nat.blt k 37 then 4 else 4) else (bif Nat.blt k 39 then 4 else 4)))) else (bif Nat.blt k 47 then (bif Nat.blt k 43 then (bif Nat.blt k 41 then 5 else (bif Nat.blt k 42 then 5 else 5)) else (bif Nat.blt k 45 then (bif Nat.blt k 44 then 5 else 5) else (bif Nat.blt k 46 then 6 else 6))) else (bif Nat.blt k 50 then (bif Nat.blt k 48 then 6 else (bif Nat.blt k 49 then 6 else 6)) else (bif Nat.blt k 52 then (bif Nat.blt k 51 then 7 else 7) else (bif Nat.blt k 53 then 7 else 7)))))) else (bif Nat.blt k 81 then (bif Nat.blt k 67 then (bif Nat.blt k 60 then (bif Nat.blt k 57 then (bif Nat.blt k 55 then 7 else (bif Nat.blt k 56 then 7 else 7)) else (bif Nat.blt k 58 then 7 else (bif Nat.blt k 59 then 7 else 7))) else (bif Nat.blt k 63 then (bif Nat.blt k 61 then 7 else (bif Nat.blt k 62 then 7 else 7)) else (bif Nat.blt k 65 then (bif Nat.blt k 64 then 7 else 7) else (bif Nat.blt k 66 then 7 else 7)))) else (bif Nat.blt k 74 then (bif Nat.blt k 70 then (bif Nat.blt k 68 then 7 else (bif Nat.blt k 69 then 7 else 7)) else (bif Nat.blt k 72 then (bif Nat.blt k 71 then 8 else 8) else (bif Nat.blt k 73 then 8 else 8))) else (bif Nat.blt k 77 then (bif Nat.blt k 75 then 8 else (bif Nat.blt k 76 then 8 else 9)) else (bif Nat.blt k 79 then (bif Nat.blt k 78 then 9 else 9) else (bif Nat.blt k 80 then 10 else 10))))) else (bif Nat.blt k 94 then (bif Nat.blt k 87 then (bif Nat.blt k 84 then (bif Nat.blt k 82 then 10 else (bif Nat.blt k 83 then 10 else 10)) else (bif Nat.blt k 85 then 10 else (bif Nat.blt k 86 then 10 else 10))) else (bif Nat.blt k 90 then (bif Nat.blt k 88 then 10 else (bif Nat.blt k 89 then 10 else 10)) else (bif Nat.blt k 92 then (bif Nat.blt k 91 then 10 else 10) else (bif Nat.blt k 93 then 10 else 10)))) else (bif Nat.blt k 101 then (bif Nat.blt k 97 then (bif Nat.blt k 95 then 10 else (bif Nat.blt k 96 then 10 else 10)) else (bif Nat.blt k 99 then (bif Nat.blt k 98 then 10 else 10) else (bif Nat.blt k 100 then 10 else 10))) else (bif Nat.blt k 104 then (bif Nat.blt k 102 then 10 else (bif Nat.blt k 103 then 10 else 10)) else (bif Nat.blt k 106 then (bif Nat.blt k 105 then 10 else 10) else (bif Nat.blt k 107 then 10 else 10))))))) else (bif Nat.blt k 162 then (bif Nat.blt k 135 then (bif Nat.blt k 121 then (bif Nat.blt k 114 then (bif Nat.blt k 111 then (bif Nat.blt k 109 then 10 else (bif Nat.blt k 110 then 10 else 10)) else (bif Nat.blt k 112 then 10 else (bif Nat.blt k 113 then 10 else 10))) else (bif Nat.blt k 117 then (bif Nat.blt k 115 then 10 else (bif Nat.blt k 116 then 10 else 10)) else (bif Nat.blt k 119 then (bif Nat.blt k 118 then 10 else 10) else (bif Nat.blt k 120 then 10 else 10)))) else (bif Nat.blt k 128 then (bif Nat.blt k 124 then (bif Nat.blt k 122 then 10 else (bif Nat.blt k 123 then 10 else 11)) else (bif Nat.blt k 126 then (bif Nat.blt k 125 then 11 else 11) else (bif Nat.blt k 127 then 11 else 11))) else (bif Nat.blt k 131 then (bif Nat.blt k 129 then 11 else (bif Nat.blt k 130 then 11 else 11)) else (bif Nat.blt k 133 then (bif Nat.blt k 132 then 11 else 11) else (bif Nat.blt k 134 then 11 else 11))))) else (bif Nat.blt k 148 then (bif Nat.blt k 141 then (bif Nat.blt k 138 then (bif Nat.blt k 136 then 11 else (bif Nat.blt k 137 then 11 else 11)) else (bif Nat.blt k 139 then 11 else (bif Nat.blt k 140 then 11 else 11))) else (bif Nat.blt k 144 then (bif Nat.blt k 142 then 11 else (bif Nat.blt k 143 then 11 else 11)) else (bif Nat.blt k 146 then (bif Nat.blt k 145 then 11 else 11) else (bif Nat.blt k 147 then 11 else 11)))) else (bif Nat.blt k 155 then (bif Nat.blt k 151 then (bif Nat.blt k 149 then 11 else (bif Nat.blt k 150 then 11 else 11)) else (bif Nat.blt k 153 then (bif Nat.blt k 152 then 11 else 11) else (bif Nat.blt k 154 then 11 else 11))) else (bif Nat.blt k 158 then (bif Nat.blt k 156 then 11 else (bif Nat.blt k 157 then 11 else 11)) else (bif Nat.blt k 160 then (bif Nat.blt k 159 then 11 else 11) else (bif Nat.blt k 161 then 11 else 11)))))) else (bif Nat.blt k 189 then (bif Nat.blt k 175 then (bif Nat.blt k 168 then (bif Nat.blt k 165 then (bif Nat.blt k 163 then 11 else (bif Nat.blt k 164 then 11 else 11)) else (bif Nat.blt k 166 then 11 else (bif Nat.blt k 167 then 11 else 11))) else (bif Nat.blt k 171 then (bif Nat.blt k 169 then 11 else (bif Nat.blt k 170 then 11 else 11)) else (bif Nat.blt k 173 then (bif Nat.blt k 172 then 11 else 11) else (bif Nat.blt k 174 then 11 else 11)))) else (bif Nat.blt k 182 then (bif Nat.blt k 178 then (bif Nat.blt k 176 then 11 else (bif Nat.blt k 177 then 11 else 11)) else (bif Nat.blt k 180 then (bif Nat.blt k 179 then 11 else 11) else (bif Nat.blt k 181 then 11 else 11))) else (bif Nat.blt k 185 then (bif Nat.blt k 183 then 11 else (bif Nat.blt k 184 then 11 else 11)) else (bif Nat.blt k 187 then (bif Nat.blt k 186 then 11 else 11) else (bif Nat.blt k 188 then 11 else 11))))) else (bif Nat.blt k 202 then (bif Nat.blt k 195 then (bif Nat.blt k 192 then (bif Nat.blt k 190 then 11 else (bif Nat.blt k 191 then 11 else 11)) else (bif Nat.blt k 193 then 11 else (bif Nat.blt k 194 then 11 else 11))) else (bif Nat.blt k 198 then (bif Nat.blt k 196 then 11 else (bif Nat.blt k 197 then 11 else 11)) else (bif Nat.blt k 200 then (bif Nat.blt k 199 then 11 else 11) else (bif Nat.blt k 201 then 11 else 11)))) else (bif Nat.blt k 209 then (bif Nat.blt k 205 then (bif Nat.blt k 203 then 11 else (bif Nat.blt k 204 then 11 else 11)) else (bif Nat.blt k 207 then (bif Nat.blt k 206 then 11 else 11) else (bif Nat.blt k 208 then 11 else 11))) else (bif Nat.blt k 212 then (bif Nat.blt k 210 then 11 else (bif Nat.blt k 211 then 11 else 11)) else (bif Nat.blt k 214 then (bif Nat.blt k 213 then 11 else 11) else (bif Nat.blt k 215 then 11 else 12))))))))
def x_on : Nat → String := fun k => (bif Nat.blt k 8 then (bif Nat.blt k 4 then (bif Nat.blt k 2 then (bif Nat.blt k 1 then "FilmPrinter$Asker" else "FilmPrinter$Edition") else (bif Nat.blt k 3 then "FilmPrinter$Explainer" else "FilmPrinter$Law")) else (bif Nat.blt k 6 then (bif Nat.blt k 5 then "FilmPrinter$Maker" else "FilmPrinter$Matcher") else (bif Nat.blt k 7 then "FilmPrinter$Projector" else "FilmPrinter$Reader"))) else (bif Nat.blt k 12 then (bif Nat.blt k 10 then (bif Nat.blt k 9 then "FilmPrinter$State" else "FilmPrinter$Tape") else (bif Nat.blt k 11 then "FilmPrinter" else "FilmPrinterModel")) else (bif Nat.blt k 14 then (bif Nat.blt k 13 then "FilmPrinterLaw" else "java/util/Arrays") else (bif Nat.blt k 15 then "java/lang/String" else (bif Nat.blt k 16 then "java/lang/StringLatin1" else "jdk/internal/util/Preconditions")))))
def x_cnt : Nat := 215
/-- the tables in pieces: a word by piece and place -/
def x_pc : Nat → List Cond := fun k => match k with
  | 0 => k2_sels lw_privs
  | 1 => tables_1_1
  | 2 => tables_1_2
  | 3 => tables_1_3
  | 4 => tables_1_4
  | 5 => tables_1_5
  | 6 => tables_1_6
  | 7 => tables_1_7
  | _ => []
theorem x_pc_in : ∀ (k : Nat) (w : Cond), w ∈ x_pc k → w ∈ lw_tbl := by
  intro k w h
  unfold lw_tbl
  match k, h with
  | 0, h => exact List.mem_append_left _ h
  | 1, h => exact List.mem_append_right _ (show w ∈ tables_1 by unfold tables_1; exact List.mem_append_left _ h)
  | 2, h => exact List.mem_append_right _ (show w ∈ tables_1 by unfold tables_1; exact List.mem_append_right _ (List.mem_append_left _ h))
  | 3, h => exact List.mem_append_right _ (show w ∈ tables_1 by unfold tables_1; exact List.mem_append_right _ (List.mem_append_right _ (List.mem_append_left _ h)))
  | 4, h => exact List.mem_append_right _ (show w ∈ tables_1 by unfold tables_1; exact List.mem_append_right _ (List.mem_append_right _ (List.mem_append_right _ (List.mem_append_left _ h))))
  | 5, h => exact List.mem_append_right _ (show w ∈ tables_1 by unfold tables_1; exact List.mem_append_right _ (List.mem_append_right _ (List.mem_append_right _ (List.mem_append_right _ (List.mem_append_left _ h)))))
  | 6, h => exact List.mem_append_right _ (show w ∈ tables_1 by unfold tables_1; exact List.mem_append_right _ (List.mem_append_right _ (List.mem_append_right _ (List.mem_append_right _ (List.mem_append_right _ (List.mem_append_left _ h))))))
  | 7, h => exact List.mem_append_right _ (show w ∈ tables_1 by unfold tables_1; exact List.mem_append_right _ (List.mem_append_right _ (List.mem_append_right _ (List.mem_append_right _ (List.mem_append_right _ (List.mem_append_right _ h))))))
  | k + 8, h => exact absurd h List.not_mem_nil
/-- a word stands in the tables, and keeps -/
def x_at (q : Nat × Nat) (w : Cond) : Bool := goodWord w && decide ((x_pc q.1)[q.2]? = some w)
theorem x_at_in {q : Nat × Nat} {w : Cond} (h : x_at q w = true) : w ∈ x_tbl := by
  simp only [x_at, Bool.and_eq_true, decide_eq_true_eq] at h
  exact List.mem_filter.mpr ⟨x_pc_in _ _ (List.mem_of_getElem? h.2), h.1⟩
theorem x_tbl_good : GoodIn x_tbl x_tbl := fun w hw => ⟨hw, good_of_word (List.mem_filter.mp hw).2⟩
def x_ws (y : Nat) : List Cond := .code (x_nm y) (x_cc y) (x_ml y) (x_rt y) :: x_tbl
end
section
-- the words of every method: its code stands in the tables, its class is initialized
def x_hi : List (Nat × Nat) := [(1, 17), (1, 4), (1, 15), (1, 15), (1, 15), (1, 15), (1, 15), (1, 16), (1, 7), (1, 7), (1, 7), (1, 7), (1, 7), (1, 7), (1, 8), (1, 8), (1, 8), (1, 8), (1, 8), (1, 8), (1, 9), (1, 9), (1, 9), (1, 9), (1, 9), (1, 9), (1, 3), (1, 3), (1, 3), (1, 3), (1, 3), (1, 3), (1, 12), (1, 12), (1, 12), (1, 12), (1, 12), (1, 12), (1, 12), (1, 12), (1, 11), (1, 11), (1, 11), (1, 11), (1, 11), (1, 10), (1, 10), (1, 10), (1, 10), (1, 10), (1, 6), (1, 6), (1, 6), (1, 6), (1, 6), (1, 6), (1, 6), (1, 6), (1, 6), (1, 6), (1, 6), (1, 6), (1, 6), (1, 6), (1, 6), (1, 6), (1, 6), (1, 6), (1, 6), (1, 6), (1, 2), (1, 2), (1, 2), (1, 2), (1, 2), (1, 2), (1, 5), (1, 5), (1, 5), (1, 1), (1, 1), (1, 1), (1, 1), (1, 1), (1, 1), (1, 1), (1, 1), (1, 1), (1, 1), (1, 1), (1, 1), (1, 1), (1, 1), (1, 1), (1, 1), (1, 1), (1, 1), (1, 1), (1, 1), (1, 1), (1, 1), (1, 1), (1, 1), (1, 1), (1, 1), (1, 1), (1, 1), (1, 1), (1, 1), (1, 1), (1, 1), (1, 1), (1, 1), (1, 1), (1, 1), (1, 1), (1, 1), (1, 1), (1, 1), (1, 1), (1, 1), (1, 1), (1, 1), (1, 13), (1, 13), (1, 13), (1, 13), (1, 13), (1, 13), (1, 13), (1, 13), (1, 13), (1, 13), (1, 13), (1, 13), (1, 13), (1, 13), (1, 13), (1, 13), (1, 13), (1, 13), (1, 13), (1, 13), (1, 13), (1, 13), (1, 13), (1, 13), (1, 13), (1, 13), (1, 13), (1, 13), (1, 13), (1, 13), (1, 13), (1, 13), (1, 13), (1, 13), (1, 13), (1, 13), (1, 13), (1, 13), (1, 13), (1, 13), (1, 13), (1, 13), (1, 13), (1, 13), (1, 13), (1, 13), (1, 13), (1, 13), (1, 13), (1, 13), (1, 13), (1, 13), (1, 13), (1, 13), (1, 13), (1, 13), (1, 13), (1, 13), (1, 13), (1, 13), (1, 13), (1, 13), (1, 13), (1, 13), (1, 13), (1, 13), (1, 13), (1, 13), (1, 13), (1, 13), (1, 13), (1, 13), (1, 13), (1, 13), (1, 13), (1, 13), (1, 13), (1, 13), (1, 13), (1, 13), (1, 13), (1, 13), (1, 13), (1, 13), (1, 13), (1, 13), (1, 13), (1, 13), (1, 13), (1, 13), (1, 13), (1, 13)]
def x_cok (y : Nat) : Prop := Cond.code (x_nm y) (x_cc y) (x_ml y) (x_rt y) ∈ x_tbl
theorem x_cok_of {y k i : Nat} (h : (x_pc k)[i]? = some (Cond.code (x_nm y) (x_cc y) (x_ml y) (x_rt y))) : x_cok y := List.mem_filter.mpr ⟨x_pc_in _ _ (List.mem_of_getElem? h), rfl⟩
theorem x_co_1 : ∀ y, y < 1 → x_cok y := lt_s lt_0 (x_cok_of (k := 3) (i := 72) rfl)
theorem x_co_2 : ∀ y, y < 2 → x_cok y := lt_s x_co_1 (x_cok_of (k := 1) (i := 78) rfl)
theorem x_co_3 : ∀ y, y < 3 → x_cok y := lt_s x_co_2 (x_cok_of (k := 3) (i := 47) rfl)
theorem x_co_4 : ∀ y, y < 4 → x_cok y := lt_s x_co_3 (x_cok_of (k := 3) (i := 51) rfl)
theorem x_co_5 : ∀ y, y < 5 → x_cok y := lt_s x_co_4 (x_cok_of (k := 3) (i := 57) rfl)
theorem x_co_6 : ∀ y, y < 6 → x_cok y := lt_s x_co_5 (x_cok_of (k := 3) (i := 61) rfl)
theorem x_co_7 : ∀ y, y < 7 → x_cok y := lt_s x_co_6 (x_cok_of (k := 3) (i := 67) rfl)
theorem x_co_8 : ∀ y, y < 8 → x_cok y := lt_s x_co_7 (x_cok_of (k := 3) (i := 64) rfl)
theorem x_co_9 : ∀ y, y < 9 → x_cok y := lt_s x_co_8 (x_cok_of (k := 1) (i := 210) rfl)
theorem x_co_10 : ∀ y, y < 10 → x_cok y := lt_s x_co_9 (x_cok_of (k := 3) (i := 202) rfl)
theorem x_co_11 : ∀ y, y < 11 → x_cok y := lt_s x_co_10 (x_cok_of (k := 3) (i := 207) rfl)
theorem x_co_12 : ∀ y, y < 12 → x_cok y := lt_s x_co_11 (x_cok_of (k := 3) (i := 211) rfl)
theorem x_co_13 : ∀ y, y < 13 → x_cok y := lt_s x_co_12 (x_cok_of (k := 3) (i := 215) rfl)
theorem x_co_14 : ∀ y, y < 14 → x_cok y := lt_s x_co_13 (x_cok_of (k := 3) (i := 219) rfl)
theorem x_co_15 : ∀ y, y < 15 → x_cok y := lt_s x_co_14 (x_cok_of (k := 2) (i := 1) rfl)
theorem x_co_16 : ∀ y, y < 16 → x_cok y := lt_s x_co_15 (x_cok_of (k := 3) (i := 230) rfl)
theorem x_co_17 : ∀ y, y < 17 → x_cok y := lt_s x_co_16 (x_cok_of (k := 3) (i := 235) rfl)
theorem x_co_18 : ∀ y, y < 18 → x_cok y := lt_s x_co_17 (x_cok_of (k := 4) (i := 16) rfl)
theorem x_co_19 : ∀ y, y < 19 → x_cok y := lt_s x_co_18 (x_cok_of (k := 4) (i := 23) rfl)
theorem x_co_20 : ∀ y, y < 20 → x_cok y := lt_s x_co_19 (x_cok_of (k := 4) (i := 84) rfl)
theorem x_co_21 : ∀ y, y < 21 → x_cok y := lt_s x_co_20 (x_cok_of (k := 2) (i := 37) rfl)
theorem x_co_22 : ∀ y, y < 22 → x_cok y := lt_s x_co_21 (x_cok_of (k := 4) (i := 45) rfl)
theorem x_co_23 : ∀ y, y < 23 → x_cok y := lt_s x_co_22 (x_cok_of (k := 4) (i := 49) rfl)
theorem x_co_24 : ∀ y, y < 24 → x_cok y := lt_s x_co_23 (x_cok_of (k := 4) (i := 59) rfl)
theorem x_co_25 : ∀ y, y < 25 → x_cok y := lt_s x_co_24 (x_cok_of (k := 4) (i := 63) rfl)
theorem x_co_26 : ∀ y, y < 26 → x_cok y := lt_s x_co_25 (x_cok_of (k := 4) (i := 68) rfl)
theorem x_co_27 : ∀ y, y < 27 → x_cok y := lt_s x_co_26 (x_cok_of (k := 1) (i := 47) rfl)
theorem x_co_28 : ∀ y, y < 28 → x_cok y := lt_s x_co_27 (x_cok_of (k := 3) (i := 123) rfl)
theorem x_co_29 : ∀ y, y < 29 → x_cok y := lt_s x_co_28 (x_cok_of (k := 3) (i := 148) rfl)
theorem x_co_30 : ∀ y, y < 30 → x_cok y := lt_s x_co_29 (x_cok_of (k := 3) (i := 168) rfl)
theorem x_co_31 : ∀ y, y < 31 → x_cok y := lt_s x_co_30 (x_cok_of (k := 3) (i := 172) rfl)
theorem x_co_32 : ∀ y, y < 32 → x_cok y := lt_s x_co_31 (x_cok_of (k := 3) (i := 180) rfl)
theorem x_co_33 : ∀ y, y < 33 → x_cok y := lt_s x_co_32 (x_cok_of (k := 2) (i := 122) rfl)
theorem x_co_34 : ∀ y, y < 34 → x_cok y := lt_s x_co_33 (x_cok_of (k := 4) (i := 148) rfl)
theorem x_co_35 : ∀ y, y < 35 → x_cok y := lt_s x_co_34 (x_cok_of (k := 4) (i := 151) rfl)
theorem x_co_36 : ∀ y, y < 36 → x_cok y := lt_s x_co_35 (x_cok_of (k := 4) (i := 154) rfl)
theorem x_co_37 : ∀ y, y < 37 → x_cok y := lt_s x_co_36 (x_cok_of (k := 4) (i := 159) rfl)
theorem x_co_38 : ∀ y, y < 38 → x_cok y := lt_s x_co_37 (x_cok_of (k := 4) (i := 163) rfl)
theorem x_co_39 : ∀ y, y < 39 → x_cok y := lt_s x_co_38 (x_cok_of (k := 4) (i := 167) rfl)
theorem x_co_40 : ∀ y, y < 40 → x_cok y := lt_s x_co_39 (x_cok_of (k := 4) (i := 172) rfl)
theorem x_co_41 : ∀ y, y < 41 → x_cok y := lt_s x_co_40 (x_cok_of (k := 2) (i := 93) rfl)
theorem x_co_42 : ∀ y, y < 42 → x_cok y := lt_s x_co_41 (x_cok_of (k := 2) (i := 228) rfl)
theorem x_co_43 : ∀ y, y < 43 → x_cok y := lt_s x_co_42 (x_cok_of (k := 4) (i := 121) rfl)
theorem x_co_44 : ∀ y, y < 44 → x_cok y := lt_s x_co_43 (x_cok_of (k := 4) (i := 126) rfl)
theorem x_co_45 : ∀ y, y < 45 → x_cok y := lt_s x_co_44 (x_cok_of (k := 4) (i := 132) rfl)
theorem x_co_46 : ∀ y, y < 46 → x_cok y := lt_s x_co_45 (x_cok_of (k := 2) (i := 66) rfl)
theorem x_co_47 : ∀ y, y < 47 → x_cok y := lt_s x_co_46 (x_cok_of (k := 4) (i := 80) rfl)
theorem x_co_48 : ∀ y, y < 48 → x_cok y := lt_s x_co_47 (x_cok_of (k := 4) (i := 93) rfl)
theorem x_co_49 : ∀ y, y < 49 → x_cok y := lt_s x_co_48 (x_cok_of (k := 4) (i := 101) rfl)
theorem x_co_50 : ∀ y, y < 50 → x_cok y := lt_s x_co_49 (x_cok_of (k := 4) (i := 105) rfl)
theorem x_co_51 : ∀ y, y < 51 → x_cok y := lt_s x_co_50 (x_cok_of (k := 1) (i := 179) rfl)
theorem x_co_52 : ∀ y, y < 52 → x_cok y := lt_s x_co_51 (x_cok_of (k := 3) (i := 25) rfl)
theorem x_co_53 : ∀ y, y < 53 → x_cok y := lt_s x_co_52 (x_cok_of (k := 3) (i := 29) rfl)
theorem x_co_54 : ∀ y, y < 54 → x_cok y := lt_s x_co_53 (x_cok_of (k := 3) (i := 32) rfl)
theorem x_co_55 : ∀ y, y < 55 → x_cok y := lt_s x_co_54 (x_cok_of (k := 3) (i := 36) rfl)
theorem x_co_56 : ∀ y, y < 56 → x_cok y := lt_s x_co_55 (x_cok_of (k := 3) (i := 39) rfl)
theorem x_co_57 : ∀ y, y < 57 → x_cok y := lt_s x_co_56 (x_cok_of (k := 3) (i := 43) rfl)
theorem x_co_58 : ∀ y, y < 58 → x_cok y := lt_s x_co_57 (x_cok_of (k := 3) (i := 101) rfl)
theorem x_co_59 : ∀ y, y < 59 → x_cok y := lt_s x_co_58 (x_cok_of (k := 3) (i := 104) rfl)
theorem x_co_60 : ∀ y, y < 60 → x_cok y := lt_s x_co_59 (x_cok_of (k := 3) (i := 114) rfl)
theorem x_co_61 : ∀ y, y < 61 → x_cok y := lt_s x_co_60 (x_cok_of (k := 3) (i := 117) rfl)
theorem x_co_62 : ∀ y, y < 62 → x_cok y := lt_s x_co_61 (x_cok_of (k := 3) (i := 127) rfl)
theorem x_co_63 : ∀ y, y < 63 → x_cok y := lt_s x_co_62 (x_cok_of (k := 3) (i := 131) rfl)
theorem x_co_64 : ∀ y, y < 64 → x_cok y := lt_s x_co_63 (x_cok_of (k := 3) (i := 135) rfl)
theorem x_co_65 : ∀ y, y < 65 → x_cok y := lt_s x_co_64 (x_cok_of (k := 3) (i := 139) rfl)
theorem x_co_66 : ∀ y, y < 66 → x_cok y := lt_s x_co_65 (x_cok_of (k := 3) (i := 143) rfl)
theorem x_co_67 : ∀ y, y < 67 → x_cok y := lt_s x_co_66 (x_cok_of (k := 3) (i := 152) rfl)
theorem x_co_68 : ∀ y, y < 68 → x_cok y := lt_s x_co_67 (x_cok_of (k := 3) (i := 156) rfl)
theorem x_co_69 : ∀ y, y < 69 → x_cok y := lt_s x_co_68 (x_cok_of (k := 3) (i := 160) rfl)
theorem x_co_70 : ∀ y, y < 70 → x_cok y := lt_s x_co_69 (x_cok_of (k := 3) (i := 164) rfl)
theorem x_co_71 : ∀ y, y < 71 → x_cok y := lt_s x_co_70 (x_cok_of (k := 1) (i := 32) rfl)
theorem x_co_72 : ∀ y, y < 72 → x_cok y := lt_s x_co_71 (x_cok_of (k := 2) (i := 206) rfl)
theorem x_co_73 : ∀ y, y < 73 → x_cok y := lt_s x_co_72 (x_cok_of (k := 2) (i := 210) rfl)
theorem x_co_74 : ∀ y, y < 74 → x_cok y := lt_s x_co_73 (x_cok_of (k := 3) (i := 183) rfl)
theorem x_co_75 : ∀ y, y < 75 → x_cok y := lt_s x_co_74 (x_cok_of (k := 4) (i := 191) rfl)
theorem x_co_76 : ∀ y, y < 76 → x_cok y := lt_s x_co_75 (x_cok_of (k := 4) (i := 204) rfl)
theorem x_co_77 : ∀ y, y < 77 → x_cok y := lt_s x_co_76 (x_cok_of (k := 1) (i := 162) rfl)
theorem x_co_78 : ∀ y, y < 78 → x_cok y := lt_s x_co_77 (x_cok_of (k := 3) (i := 13) rfl)
theorem x_co_79 : ∀ y, y < 79 → x_cok y := lt_s x_co_78 (x_cok_of (k := 3) (i := 176) rfl)
theorem x_co_80 : ∀ y, y < 80 → x_cok y := lt_s x_co_79 (x_cok_of (k := 1) (i := 24) rfl)
theorem x_co_81 : ∀ y, y < 81 → x_cok y := lt_s x_co_80 (x_cok_of (k := 2) (i := 195) rfl)
theorem x_co_82 : ∀ y, y < 82 → x_cok y := lt_s x_co_81 (x_cok_of (k := 2) (i := 198) rfl)
theorem x_co_83 : ∀ y, y < 83 → x_cok y := lt_s x_co_82 (x_cok_of (k := 2) (i := 202) rfl)
theorem x_co_84 : ∀ y, y < 84 → x_cok y := lt_s x_co_83 (x_cok_of (k := 2) (i := 216) rfl)
theorem x_co_85 : ∀ y, y < 85 → x_cok y := lt_s x_co_84 (x_cok_of (k := 2) (i := 224) rfl)
theorem x_co_86 : ∀ y, y < 86 → x_cok y := lt_s x_co_85 (x_cok_of (k := 2) (i := 232) rfl)
theorem x_co_87 : ∀ y, y < 87 → x_cok y := lt_s x_co_86 (x_cok_of (k := 2) (i := 236) rfl)
theorem x_co_88 : ∀ y, y < 88 → x_cok y := lt_s x_co_87 (x_cok_of (k := 3) (i := 1) rfl)
theorem x_co_89 : ∀ y, y < 89 → x_cok y := lt_s x_co_88 (x_cok_of (k := 3) (i := 9) rfl)
theorem x_co_90 : ∀ y, y < 90 → x_cok y := lt_s x_co_89 (x_cok_of (k := 3) (i := 17) rfl)
theorem x_co_91 : ∀ y, y < 91 → x_cok y := lt_s x_co_90 (x_cok_of (k := 3) (i := 21) rfl)
theorem x_co_92 : ∀ y, y < 92 → x_cok y := lt_s x_co_91 (x_cok_of (k := 3) (i := 191) rfl)
theorem x_co_93 : ∀ y, y < 93 → x_cok y := lt_s x_co_92 (x_cok_of (k := 3) (i := 195) rfl)
theorem x_co_94 : ∀ y, y < 94 → x_cok y := lt_s x_co_93 (x_cok_of (k := 3) (i := 198) rfl)
theorem x_co_95 : ∀ y, y < 95 → x_cok y := lt_s x_co_94 (x_cok_of (k := 3) (i := 226) rfl)
theorem x_co_96 : ∀ y, y < 96 → x_cok y := lt_s x_co_95 (x_cok_of (k := 4) (i := 0) rfl)
theorem x_co_97 : ∀ y, y < 97 → x_cok y := lt_s x_co_96 (x_cok_of (k := 4) (i := 4) rfl)
theorem x_co_98 : ∀ y, y < 98 → x_cok y := lt_s x_co_97 (x_cok_of (k := 4) (i := 8) rfl)
theorem x_co_99 : ∀ y, y < 99 → x_cok y := lt_s x_co_98 (x_cok_of (k := 4) (i := 12) rfl)
theorem x_co_100 : ∀ y, y < 100 → x_cok y := lt_s x_co_99 (x_cok_of (k := 4) (i := 19) rfl)
theorem x_co_101 : ∀ y, y < 101 → x_cok y := lt_s x_co_100 (x_cok_of (k := 4) (i := 28) rfl)
theorem x_co_102 : ∀ y, y < 102 → x_cok y := lt_s x_co_101 (x_cok_of (k := 4) (i := 33) rfl)
theorem x_co_103 : ∀ y, y < 103 → x_cok y := lt_s x_co_102 (x_cok_of (k := 4) (i := 37) rfl)
theorem x_co_104 : ∀ y, y < 104 → x_cok y := lt_s x_co_103 (x_cok_of (k := 4) (i := 41) rfl)
theorem x_co_105 : ∀ y, y < 105 → x_cok y := lt_s x_co_104 (x_cok_of (k := 4) (i := 72) rfl)
theorem x_co_106 : ∀ y, y < 106 → x_cok y := lt_s x_co_105 (x_cok_of (k := 4) (i := 76) rfl)
theorem x_co_107 : ∀ y, y < 107 → x_cok y := lt_s x_co_106 (x_cok_of (k := 4) (i := 89) rfl)
theorem x_co_108 : ∀ y, y < 108 → x_cok y := lt_s x_co_107 (x_cok_of (k := 4) (i := 97) rfl)
theorem x_co_109 : ∀ y, y < 109 → x_cok y := lt_s x_co_108 (x_cok_of (k := 4) (i := 110) rfl)
theorem x_co_110 : ∀ y, y < 110 → x_cok y := lt_s x_co_109 (x_cok_of (k := 4) (i := 113) rfl)
theorem x_co_111 : ∀ y, y < 111 → x_cok y := lt_s x_co_110 (x_cok_of (k := 4) (i := 117) rfl)
theorem x_co_112 : ∀ y, y < 112 → x_cok y := lt_s x_co_111 (x_cok_of (k := 4) (i := 136) rfl)
theorem x_co_113 : ∀ y, y < 113 → x_cok y := lt_s x_co_112 (x_cok_of (k := 4) (i := 140) rfl)
theorem x_co_114 : ∀ y, y < 114 → x_cok y := lt_s x_co_113 (x_cok_of (k := 4) (i := 144) rfl)
theorem x_co_115 : ∀ y, y < 115 → x_cok y := lt_s x_co_114 (x_cok_of (k := 4) (i := 176) rfl)
theorem x_co_116 : ∀ y, y < 116 → x_cok y := lt_s x_co_115 (x_cok_of (k := 4) (i := 180) rfl)
theorem x_co_117 : ∀ y, y < 117 → x_cok y := lt_s x_co_116 (x_cok_of (k := 4) (i := 183) rfl)
theorem x_co_118 : ∀ y, y < 118 → x_cok y := lt_s x_co_117 (x_cok_of (k := 4) (i := 187) rfl)
theorem x_co_119 : ∀ y, y < 119 → x_cok y := lt_s x_co_118 (x_cok_of (k := 4) (i := 195) rfl)
theorem x_co_120 : ∀ y, y < 120 → x_cok y := lt_s x_co_119 (x_cok_of (k := 4) (i := 200) rfl)
theorem x_co_121 : ∀ y, y < 121 → x_cok y := lt_s x_co_120 (x_cok_of (k := 4) (i := 210) rfl)
theorem x_co_122 : ∀ y, y < 122 → x_cok y := lt_s x_co_121 (x_cok_of (k := 4) (i := 214) rfl)
theorem x_co_123 : ∀ y, y < 123 → x_cok y := lt_s x_co_122 (x_cok_of (k := 4) (i := 218) rfl)
theorem x_co_124 : ∀ y, y < 124 → x_cok y := lt_s x_co_123 (x_cok_of (k := 4) (i := 223) rfl)
theorem x_co_125 : ∀ y, y < 125 → x_cok y := lt_s x_co_124 (x_cok_of (k := 5) (i := 129) rfl)
theorem x_co_126 : ∀ y, y < 126 → x_cok y := lt_s x_co_125 (x_cok_of (k := 5) (i := 132) rfl)
theorem x_co_127 : ∀ y, y < 127 → x_cok y := lt_s x_co_126 (x_cok_of (k := 5) (i := 136) rfl)
theorem x_co_128 : ∀ y, y < 128 → x_cok y := lt_s x_co_127 (x_cok_of (k := 5) (i := 140) rfl)
theorem x_co_129 : ∀ y, y < 129 → x_cok y := lt_s x_co_128 (x_cok_of (k := 5) (i := 144) rfl)
theorem x_co_130 : ∀ y, y < 130 → x_cok y := lt_s x_co_129 (x_cok_of (k := 5) (i := 148) rfl)
theorem x_co_131 : ∀ y, y < 131 → x_cok y := lt_s x_co_130 (x_cok_of (k := 5) (i := 157) rfl)
theorem x_co_132 : ∀ y, y < 132 → x_cok y := lt_s x_co_131 (x_cok_of (k := 5) (i := 161) rfl)
theorem x_co_133 : ∀ y, y < 133 → x_cok y := lt_s x_co_132 (x_cok_of (k := 5) (i := 165) rfl)
theorem x_co_134 : ∀ y, y < 134 → x_cok y := lt_s x_co_133 (x_cok_of (k := 5) (i := 170) rfl)
theorem x_co_135 : ∀ y, y < 135 → x_cok y := lt_s x_co_134 (x_cok_of (k := 5) (i := 174) rfl)
theorem x_co_136 : ∀ y, y < 136 → x_cok y := lt_s x_co_135 (x_cok_of (k := 5) (i := 177) rfl)
theorem x_co_137 : ∀ y, y < 137 → x_cok y := lt_s x_co_136 (x_cok_of (k := 5) (i := 180) rfl)
theorem x_co_138 : ∀ y, y < 138 → x_cok y := lt_s x_co_137 (x_cok_of (k := 5) (i := 184) rfl)
theorem x_co_139 : ∀ y, y < 139 → x_cok y := lt_s x_co_138 (x_cok_of (k := 5) (i := 188) rfl)
theorem x_co_140 : ∀ y, y < 140 → x_cok y := lt_s x_co_139 (x_cok_of (k := 5) (i := 192) rfl)
theorem x_co_141 : ∀ y, y < 141 → x_cok y := lt_s x_co_140 (x_cok_of (k := 5) (i := 196) rfl)
theorem x_co_142 : ∀ y, y < 142 → x_cok y := lt_s x_co_141 (x_cok_of (k := 5) (i := 200) rfl)
theorem x_co_143 : ∀ y, y < 143 → x_cok y := lt_s x_co_142 (x_cok_of (k := 5) (i := 204) rfl)
theorem x_co_144 : ∀ y, y < 144 → x_cok y := lt_s x_co_143 (x_cok_of (k := 5) (i := 208) rfl)
theorem x_co_145 : ∀ y, y < 145 → x_cok y := lt_s x_co_144 (x_cok_of (k := 5) (i := 211) rfl)
theorem x_co_146 : ∀ y, y < 146 → x_cok y := lt_s x_co_145 (x_cok_of (k := 5) (i := 214) rfl)
theorem x_co_147 : ∀ y, y < 147 → x_cok y := lt_s x_co_146 (x_cok_of (k := 5) (i := 224) rfl)
theorem x_co_148 : ∀ y, y < 148 → x_cok y := lt_s x_co_147 (x_cok_of (k := 5) (i := 228) rfl)
theorem x_co_149 : ∀ y, y < 149 → x_cok y := lt_s x_co_148 (x_cok_of (k := 5) (i := 233) rfl)
theorem x_co_150 : ∀ y, y < 150 → x_cok y := lt_s x_co_149 (x_cok_of (k := 5) (i := 239) rfl)
theorem x_co_151 : ∀ y, y < 151 → x_cok y := lt_s x_co_150 (x_cok_of (k := 6) (i := 3) rfl)
theorem x_co_152 : ∀ y, y < 152 → x_cok y := lt_s x_co_151 (x_cok_of (k := 6) (i := 7) rfl)
theorem x_co_153 : ∀ y, y < 153 → x_cok y := lt_s x_co_152 (x_cok_of (k := 6) (i := 12) rfl)
theorem x_co_154 : ∀ y, y < 154 → x_cok y := lt_s x_co_153 (x_cok_of (k := 6) (i := 16) rfl)
theorem x_co_155 : ∀ y, y < 155 → x_cok y := lt_s x_co_154 (x_cok_of (k := 6) (i := 20) rfl)
theorem x_co_156 : ∀ y, y < 156 → x_cok y := lt_s x_co_155 (x_cok_of (k := 6) (i := 24) rfl)
theorem x_co_157 : ∀ y, y < 157 → x_cok y := lt_s x_co_156 (x_cok_of (k := 6) (i := 28) rfl)
theorem x_co_158 : ∀ y, y < 158 → x_cok y := lt_s x_co_157 (x_cok_of (k := 6) (i := 40) rfl)
theorem x_co_159 : ∀ y, y < 159 → x_cok y := lt_s x_co_158 (x_cok_of (k := 6) (i := 44) rfl)
theorem x_co_160 : ∀ y, y < 160 → x_cok y := lt_s x_co_159 (x_cok_of (k := 6) (i := 48) rfl)
theorem x_co_161 : ∀ y, y < 161 → x_cok y := lt_s x_co_160 (x_cok_of (k := 6) (i := 51) rfl)
theorem x_co_162 : ∀ y, y < 162 → x_cok y := lt_s x_co_161 (x_cok_of (k := 6) (i := 55) rfl)
theorem x_co_163 : ∀ y, y < 163 → x_cok y := lt_s x_co_162 (x_cok_of (k := 6) (i := 59) rfl)
theorem x_co_164 : ∀ y, y < 164 → x_cok y := lt_s x_co_163 (x_cok_of (k := 6) (i := 63) rfl)
theorem x_co_165 : ∀ y, y < 165 → x_cok y := lt_s x_co_164 (x_cok_of (k := 6) (i := 71) rfl)
theorem x_co_166 : ∀ y, y < 166 → x_cok y := lt_s x_co_165 (x_cok_of (k := 6) (i := 78) rfl)
theorem x_co_167 : ∀ y, y < 167 → x_cok y := lt_s x_co_166 (x_cok_of (k := 6) (i := 81) rfl)
theorem x_co_168 : ∀ y, y < 168 → x_cok y := lt_s x_co_167 (x_cok_of (k := 6) (i := 86) rfl)
theorem x_co_169 : ∀ y, y < 169 → x_cok y := lt_s x_co_168 (x_cok_of (k := 6) (i := 90) rfl)
theorem x_co_170 : ∀ y, y < 170 → x_cok y := lt_s x_co_169 (x_cok_of (k := 6) (i := 94) rfl)
theorem x_co_171 : ∀ y, y < 171 → x_cok y := lt_s x_co_170 (x_cok_of (k := 6) (i := 98) rfl)
theorem x_co_172 : ∀ y, y < 172 → x_cok y := lt_s x_co_171 (x_cok_of (k := 6) (i := 102) rfl)
theorem x_co_173 : ∀ y, y < 173 → x_cok y := lt_s x_co_172 (x_cok_of (k := 6) (i := 106) rfl)
theorem x_co_174 : ∀ y, y < 174 → x_cok y := lt_s x_co_173 (x_cok_of (k := 6) (i := 112) rfl)
theorem x_co_175 : ∀ y, y < 175 → x_cok y := lt_s x_co_174 (x_cok_of (k := 6) (i := 116) rfl)
theorem x_co_176 : ∀ y, y < 176 → x_cok y := lt_s x_co_175 (x_cok_of (k := 6) (i := 120) rfl)
theorem x_co_177 : ∀ y, y < 177 → x_cok y := lt_s x_co_176 (x_cok_of (k := 6) (i := 124) rfl)
theorem x_co_178 : ∀ y, y < 178 → x_cok y := lt_s x_co_177 (x_cok_of (k := 6) (i := 128) rfl)
theorem x_co_179 : ∀ y, y < 179 → x_cok y := lt_s x_co_178 (x_cok_of (k := 6) (i := 132) rfl)
theorem x_co_180 : ∀ y, y < 180 → x_cok y := lt_s x_co_179 (x_cok_of (k := 6) (i := 137) rfl)
theorem x_co_181 : ∀ y, y < 181 → x_cok y := lt_s x_co_180 (x_cok_of (k := 6) (i := 141) rfl)
theorem x_co_182 : ∀ y, y < 182 → x_cok y := lt_s x_co_181 (x_cok_of (k := 6) (i := 145) rfl)
theorem x_co_183 : ∀ y, y < 183 → x_cok y := lt_s x_co_182 (x_cok_of (k := 6) (i := 149) rfl)
theorem x_co_184 : ∀ y, y < 184 → x_cok y := lt_s x_co_183 (x_cok_of (k := 6) (i := 152) rfl)
theorem x_co_185 : ∀ y, y < 185 → x_cok y := lt_s x_co_184 (x_cok_of (k := 6) (i := 156) rfl)
theorem x_co_186 : ∀ y, y < 186 → x_cok y := lt_s x_co_185 (x_cok_of (k := 6) (i := 160) rfl)
theorem x_co_187 : ∀ y, y < 187 → x_cok y := lt_s x_co_186 (x_cok_of (k := 6) (i := 164) rfl)
theorem x_co_188 : ∀ y, y < 188 → x_cok y := lt_s x_co_187 (x_cok_of (k := 6) (i := 168) rfl)
theorem x_co_189 : ∀ y, y < 189 → x_cok y := lt_s x_co_188 (x_cok_of (k := 6) (i := 172) rfl)
theorem x_co_190 : ∀ y, y < 190 → x_cok y := lt_s x_co_189 (x_cok_of (k := 6) (i := 176) rfl)
theorem x_co_191 : ∀ y, y < 191 → x_cok y := lt_s x_co_190 (x_cok_of (k := 6) (i := 180) rfl)
theorem x_co_192 : ∀ y, y < 192 → x_cok y := lt_s x_co_191 (x_cok_of (k := 6) (i := 184) rfl)
theorem x_co_193 : ∀ y, y < 193 → x_cok y := lt_s x_co_192 (x_cok_of (k := 6) (i := 188) rfl)
theorem x_co_194 : ∀ y, y < 194 → x_cok y := lt_s x_co_193 (x_cok_of (k := 6) (i := 192) rfl)
theorem x_co_195 : ∀ y, y < 195 → x_cok y := lt_s x_co_194 (x_cok_of (k := 6) (i := 196) rfl)
theorem x_co_196 : ∀ y, y < 196 → x_cok y := lt_s x_co_195 (x_cok_of (k := 6) (i := 200) rfl)
theorem x_co_197 : ∀ y, y < 197 → x_cok y := lt_s x_co_196 (x_cok_of (k := 6) (i := 204) rfl)
theorem x_co_198 : ∀ y, y < 198 → x_cok y := lt_s x_co_197 (x_cok_of (k := 6) (i := 208) rfl)
theorem x_co_199 : ∀ y, y < 199 → x_cok y := lt_s x_co_198 (x_cok_of (k := 6) (i := 212) rfl)
theorem x_co_200 : ∀ y, y < 200 → x_cok y := lt_s x_co_199 (x_cok_of (k := 6) (i := 215) rfl)
theorem x_co_201 : ∀ y, y < 201 → x_cok y := lt_s x_co_200 (x_cok_of (k := 6) (i := 219) rfl)
theorem x_co_202 : ∀ y, y < 202 → x_cok y := lt_s x_co_201 (x_cok_of (k := 6) (i := 223) rfl)
theorem x_co_203 : ∀ y, y < 203 → x_cok y := lt_s x_co_202 (x_cok_of (k := 6) (i := 227) rfl)
theorem x_co_204 : ∀ y, y < 204 → x_cok y := lt_s x_co_203 (x_cok_of (k := 6) (i := 231) rfl)
theorem x_co_205 : ∀ y, y < 205 → x_cok y := lt_s x_co_204 (x_cok_of (k := 6) (i := 235) rfl)
theorem x_co_206 : ∀ y, y < 206 → x_cok y := lt_s x_co_205 (x_cok_of (k := 6) (i := 239) rfl)
theorem x_co_207 : ∀ y, y < 207 → x_cok y := lt_s x_co_206 (x_cok_of (k := 7) (i := 4) rfl)
theorem x_co_208 : ∀ y, y < 208 → x_cok y := lt_s x_co_207 (x_cok_of (k := 7) (i := 8) rfl)
theorem x_co_209 : ∀ y, y < 209 → x_cok y := lt_s x_co_208 (x_cok_of (k := 7) (i := 12) rfl)
theorem x_co_210 : ∀ y, y < 210 → x_cok y := lt_s x_co_209 (x_cok_of (k := 7) (i := 16) rfl)
theorem x_co_211 : ∀ y, y < 211 → x_cok y := lt_s x_co_210 (x_cok_of (k := 7) (i := 20) rfl)
theorem x_co_212 : ∀ y, y < 212 → x_cok y := lt_s x_co_211 (x_cok_of (k := 7) (i := 24) rfl)
theorem x_co_213 : ∀ y, y < 213 → x_cok y := lt_s x_co_212 (x_cok_of (k := 7) (i := 28) rfl)
theorem x_co_214 : ∀ y, y < 214 → x_cok y := lt_s x_co_213 (x_cok_of (k := 7) (i := 32) rfl)
theorem x_co_215 : ∀ y, y < 215 → x_cok y := lt_s x_co_214 (x_cok_of (k := 7) (i := 36) rfl)
def x_okm (y : Nat) : Bool := x_at (x_hi.getD y (0, 0)) (Cond.initialized (x_nm y).cls) && (plainName (x_nm y).cls && (decide ((x_nm y).cls ≠ "java/lang/invoke/MethodHandle") && (decide ((x_nm y).cls ≠ "java/lang/invoke/VarHandle") && (decide ((parseMethodDescriptor (x_nm y).desc).map (fun d => d.parameters.length) = some (x_np y)) && decide ((x_nm y).cls = x_on (x_ow y))))))
def x_okr (a n : Nat) : Bool := (List.range n).all (fun i => x_okm (a + i))
theorem x_okr_0 : x_okr 0 20 = true := by decide +kernel
theorem x_okr_1 : x_okr 20 20 = true := by decide +kernel
theorem x_okr_2 : x_okr 40 20 = true := by decide +kernel
theorem x_okr_3 : x_okr 60 20 = true := by decide +kernel
theorem x_okr_4 : x_okr 80 20 = true := by decide +kernel
theorem x_okr_5 : x_okr 100 20 = true := by decide +kernel
theorem x_okr_6 : x_okr 120 20 = true := by decide +kernel
theorem x_okr_7 : x_okr 140 20 = true := by decide +kernel
theorem x_okr_8 : x_okr 160 20 = true := by decide +kernel
theorem x_okr_9 : x_okr 180 20 = true := by decide +kernel
theorem x_okr_10 : x_okr 200 15 = true := by decide +kernel
theorem x_okr_at {a n y : Nat} (h : x_okr a n = true) (h1 : a ≤ y) (h2 : y < a + n) : x_okm y = true := by
  have h3 := List.all_eq_true.mp h (y - a) (List.mem_range.mpr (by omega))
  have e : a + (y - a) = y := by omega
  rw [e] at h3
  exact h3
theorem x_okm_all {y : Nat} (hy : y < x_cnt) : x_okm y = true := by
  unfold x_cnt at hy
  by_cases h0 : y < 20
  · exact x_okr_at x_okr_0 (by omega) (by omega)
  by_cases h1 : y < 40
  · exact x_okr_at x_okr_1 (by omega) (by omega)
  by_cases h2 : y < 60
  · exact x_okr_at x_okr_2 (by omega) (by omega)
  by_cases h3 : y < 80
  · exact x_okr_at x_okr_3 (by omega) (by omega)
  by_cases h4 : y < 100
  · exact x_okr_at x_okr_4 (by omega) (by omega)
  by_cases h5 : y < 120
  · exact x_okr_at x_okr_5 (by omega) (by omega)
  by_cases h6 : y < 140
  · exact x_okr_at x_okr_6 (by omega) (by omega)
  by_cases h7 : y < 160
  · exact x_okr_at x_okr_7 (by omega) (by omega)
  by_cases h8 : y < 180
  · exact x_okr_at x_okr_8 (by omega) (by omega)
  by_cases h9 : y < 200
  · exact x_okr_at x_okr_9 (by omega) (by omega)
  by_cases h10 : y < 215
  · exact x_okr_at x_okr_10 (by omega) (by omega)
  omega
theorem x_okm_at {y : Nat} (hy : y < x_cnt) : Cond.code (x_nm y) (x_cc y) (x_ml y) (x_rt y) ∈ x_tbl ∧ Cond.initialized (x_nm y).cls ∈ x_tbl ∧ plainName (x_nm y).cls = true ∧ (x_nm y).cls ≠ "java/lang/invoke/MethodHandle" ∧ (x_nm y).cls ≠ "java/lang/invoke/VarHandle" ∧ (parseMethodDescriptor (x_nm y).desc).map (fun d => d.parameters.length) = some (x_np y) ∧ (x_nm y).cls = x_on (x_ow y) := by
  have h := x_okm_all hy
  simp only [x_okm, Bool.and_eq_true, decide_eq_true_eq] at h
  exact ⟨x_co_215 y hy, x_at_in h.1, h.2.1, h.2.2.1, h.2.2.2.1, h.2.2.2.2.1, h.2.2.2.2.2⟩
theorem x_ws_good {y : Nat} (hy : y < x_cnt) : GoodIn x_tbl (x_ws y) := by
  intro w hw
  rcases List.mem_cons.mp hw with rfl | hw
  · exact x_tbl_good _ (x_okm_at hy).1
  · exact x_tbl_good _ hw
end
section
/-! THE ABSTRACT MACHINE: values over the integers, cells numbered in the order of their making -/
abbrev xV : Type := Int ⊕ Int ⊕ Option Nat ⊕ Nat ⊕ Nat ⊕ Unit
abbrev vI (x : Int) : xV := .inl x
abbrev vL (x : Int) : xV := .inr (.inl x)
abbrev vR (k : Nat) : xV := .inr (.inr (.inl (some k)))
abbrev vN : xV := .inr (.inr (.inl none))
abbrev vE (j : Nat) : xV := .inr (.inr (.inr (.inl j)))
abbrev vS (j : Nat) : xV := .inr (.inr (.inr (.inr (.inl j))))
abbrev vU : xV := .inr (.inr (.inr (.inr (.inr ()))))
/-- a cell: an object (number of its class, fields), an array of numbers (kind 0 int, 1 boolean, 2 long; length; contents), an array of references -/
abbrev xC : Type := (Nat × List xV) ⊕ (Nat × Nat × (Nat → Int)) ⊕ (Nat × (Nat → Option Nat))
abbrev c_O (ci : Nat) (fs : List xV) : xC := .inl (ci, fs)
abbrev c_A (k n : Nat) (f : Nat → Int) : xC := .inr (.inl (k, n, f))
abbrev c_R (n : Nat) (f : Nat → Option Nat) : xC := .inr (.inr (n, f))
/-- the heap: cells, how many, slots in all -/
abbrev xH : Type := (Nat → Option xC) × Nat × Nat
/-- what lies outside: arrays that nobody writes (kind 0 int, 3 byte; length; contents) -/
abbrev xX : Type := Nat → Nat × Nat × (Nat → Int)
/-- a step's end: on at (pc, locals, stack, heap); a call (method, arguments, pc behind it, stack below); an answer -/
abbrev xR : Type := (Nat × List xV × List xV × xH) ⊕ (Nat × List xV × Nat × List xV) ⊕ (Option xV)
abbrev xF : Type := Nat → List xV → List xV → xH → Option xR
abbrev xr (x : Int) : Prop := -2147483648 ≤ x ∧ x ≤ 2147483647
abbrev xrl (x : Int) : Prop := -9223372036854775808 ≤ x ∧ x ≤ 9223372036854775807
abbrev xin (i : Int) (n : Nat) : Prop := 0 ≤ i ∧ i < n
def xup {α : Type} (f : Nat → α) (k : Nat) (v : α) : Nat → α := fun j => if j = k then v else f j
def xset (h : xH) (k : Nat) (c : xC) : xH := (xup h.1 k (some c), h.2.1, h.2.2)
def xnew (h : xH) (c : xC) (sz : Nat) : xH := (xup h.1 h.2.1 (some c), h.2.1 + 1, h.2.2 + sz)
def xon (pc : Nat) (L S : List xV) (h : xH) : Option xR := some (.inl (pc, L, S, h))
def xkill (L : List xV) (i : Nat) : List xV := match i with
  | 0 => L
  | j + 1 => match L[j]? with
    | some (.inr (.inl _)) => L.set j vU
    | _ => L
def xst1 (L : List xV) (i : Nat) (v : xV) : List xV := (xkill L i).set i v
def xst2 (L : List xV) (i : Nat) (v : xV) : List xV := ((xkill L i).set i v).set (i + 1) vU
def xcat (v : xV) : Nat := match v with
  | .inr (.inl _) => 2
  | _ => 1
def xwd (S : List xV) : Nat := (S.map xcat).sum
/-- a method's first locals -/
def xlo1 (v : xV) : List xV := match v with
  | .inr (.inl x) => [vL x, vU]
  | v => [v]
def xlo (as : List xV) : List xV := as.flatMap xlo1
def xent (n : Nat) (as : List xV) : List xV := xlo as ++ List.replicate (n - (xlo as).length) vU
def x_ic (b : Int) (n : Nat) : xF := fun pc L S h => xon (pc + n) L (vI b :: S) h
def x_lc (b : Int) (n : Nat) : xF := fun pc L S h => xon (pc + n) L (vL b :: S) h
def x_il (a n : Nat) : xF := fun pc L S h => match L[a]? with
  | some (.inl x) => xon (pc + n) L (vI x :: S) h
  | _ => none
def x_ll (a n : Nat) : xF := fun pc L S h => match L[a]? with
  | some (.inr (.inl x)) => xon (pc + n) L (vL x :: S) h
  | _ => none
def x_al (a n : Nat) : xF := fun pc L S h => match L[a]? with
  | some (.inr (.inr (.inl r))) => xon (pc + n) L (.inr (.inr (.inl r)) :: S) h
  | some (.inr (.inr (.inr (.inl j)))) => xon (pc + n) L (vE j :: S) h
  | some (.inr (.inr (.inr (.inr (.inl j))))) => xon (pc + n) L (vS j :: S) h
  | _ => none
def x_is (a n : Nat) : xF := fun pc L S h => match S with
  | .inl x :: S => if a < L.length then xon (pc + n) (xst1 L a (vI x)) S h else none
  | _ => none
def x_ls (a n : Nat) : xF := fun pc L S h => match S with
  | .inr (.inl x) :: S => if a + 1 < L.length then xon (pc + n) (xst2 L a (vL x)) S h else none
  | _ => none
def x_as (a n : Nat) : xF := fun pc L S h => match S with
  | .inr (.inr (.inl r)) :: S => if a < L.length then xon (pc + n) (xst1 L a (.inr (.inr (.inl r)))) S h else none
  | _ => none
def x_inc (a : Nat) (b : Int) (n : Nat) : xF := fun pc L S h => match L[a]? with
  | some (.inl x) => xon (pc + n) (xst1 L a (vI (x + b))) S h
  | _ => none
def xband (x y : Int) : Int := (Int32.ofInt x &&& Int32.ofInt y).toInt
def xbor (x y : Int) : Int := (Int32.ofInt x ||| Int32.ofInt y).toInt
def xshl (x y : Int) : Int := (Int32.ofInt x <<< (Int32.ofInt y &&& 31)).toInt
def xshr (x y : Int) : Int := (Int32.ofInt x >>> (Int32.ofInt y &&& 31)).toInt
def xushr (x y : Int) : Int := (((Int32.ofInt x).toUInt32 >>> ((Int32.ofInt y).toUInt32 &&& Int32.toUInt32 31)).toInt32).toInt
def xi2c (x : Int) : Int := (((Int32.ofInt x).toUInt32 % 65536).toInt32).toInt
def x_bin (g : Int → Int → Int) : xF := fun pc L S h => match S with
  | .inl y :: .inl x :: S => xon (pc + 1) L (vI (g x y) :: S) h
  | _ => none
def x_div : xF := fun pc L S h => match S with
  | .inl y :: .inl x :: S => if xr x ∧ xr y ∧ y ≠ 0 ∧ y ≠ -1 then xon (pc + 1) L (vI (x.tdiv y) :: S) h else none
  | _ => none
def x_rem : xF := fun pc L S h => match S with
  | .inl y :: .inl x :: S => if xr x ∧ xr y ∧ y ≠ 0 ∧ y ≠ -1 then xon (pc + 1) L (vI (x.tmod y) :: S) h else none
  | _ => none
def x_neg : xF := fun pc L S h => match S with
  | .inl x :: S => xon (pc + 1) L (vI (-x) :: S) h
  | _ => none
def x_binl (g : Int → Int → Int) : xF := fun pc L S h => match S with
  | .inr (.inl y) :: .inr (.inl x) :: S => xon (pc + 1) L (vL (g x y) :: S) h
  | _ => none
def x_ldiv : xF := fun pc L S h => match S with
  | .inr (.inl y) :: .inr (.inl x) :: S => if xrl x ∧ xrl y ∧ y ≠ 0 ∧ x ≠ -9223372036854775808 then xon (pc + 1) L (vL (x.tdiv y) :: S) h else none
  | _ => none
def x_i2l : xF := fun pc L S h => match S with
  | .inl x :: S => if xr x then xon (pc + 1) L (vL x :: S) h else none
  | _ => none
def x_l2i : xF := fun pc L S h => match S with
  | .inr (.inl x) :: S => xon (pc + 1) L (vI x :: S) h
  | _ => none
def x_i2c : xF := fun pc L S h => match S with
  | .inl x :: S => xon (pc + 1) L (vI (xi2c x) :: S) h
  | _ => none
def xcmp (x y : Int) : Int := if x > y then 1 else if x = y then 0 else -1
def x_lcmp : xF := fun pc L S h => match S with
  | .inr (.inl y) :: .inr (.inl x) :: S => if xrl x ∧ xrl y then xon (pc + 1) L (vI (xcmp x y) :: S) h else none
  | _ => none
def x_dup : xF := fun pc L S h => match S with
  | v :: S => if xcat v = 1 then xon (pc + 1) L (v :: v :: S) h else none
  | _ => none
def x_dup2 : xF := fun pc L S h => match S with
  | v :: w :: S => if xcat v = 1 ∧ xcat w = 1 then xon (pc + 1) L (v :: w :: v :: w :: S) h else none
  | _ => none
def x_pop : xF := fun pc L S h => match S with
  | v :: S => if xcat v = 1 then xon (pc + 1) L S h else none
  | _ => none
/-- the six comparisons: 0 eq, 1 ne, 2 lt, 3 ge, 4 gt, 5 le -/
def xcond (a : Nat) (x y : Int) : Prop := match a with
  | 0 => x = y
  | 1 => x ≠ y
  | 2 => x < y
  | 3 => y ≤ x
  | 4 => y < x
  | _ => x ≤ y
def xcondB (a : Nat) (x y : Int) : Bool := match a with
  | 0 => decide (x = y)
  | 1 => decide (x ≠ y)
  | 2 => decide (x < y)
  | 3 => decide (y ≤ x)
  | 4 => decide (y < x)
  | _ => decide (x ≤ y)
def x_if (a : Nat) (t : Nat) : xF := fun pc L S h => match S with
  | .inl x :: S => if xr x then (if xcondB a x 0 = true then xon t L S h else xon (pc + 3) L S h) else none
  | _ => none
def x_cmp (a : Nat) (t : Nat) : xF := fun pc L S h => match S with
  | .inl y :: .inl x :: S => if xr x ∧ xr y then (if xcondB a x y = true then xon t L S h else xon (pc + 3) L S h) else none
  | _ => none
def x_goto (t : Nat) : xF := fun _ L S h => xon t L S h
def x_nnul (t : Nat) : xF := fun pc L S h => match S with
  | .inr (.inr (.inl none)) :: S => xon (pc + 3) L S h
  | .inr (.inr (.inl (some _))) :: S => xon t L S h
  | _ => none
def x_getf (ci k : Nat) : xF := fun pc L S h => match S with
  | .inr (.inr (.inl (some o))) :: S => match h.1 o with
    | some (.inl (cj, fs)) => if cj = ci then match fs[k]? with
      | some v => xon (pc + 3) L (v :: S) h
      | none => none
      else none
    | _ => none
  | _ => none
/-- does a value fit a field of a kind: 0 int, 1 boolean, 2 long, 3 a reference -/
def xfit (ty : Nat) (v : xV) : Bool := match ty, v with
  | 0, .inl _ => true
  | 1, .inl x => decide (x = 0 ∨ x = 1)
  | 2, .inr (.inl _) => true
  | 3, .inr (.inr (.inl _)) => true
  | 5, .inl x => decide (x = 0)
  | 6, .inl x => decide (0 ≤ x ∧ x ≤ 65535)
  | _, _ => false
def x_putf (ci k ty : Nat) : xF := fun pc L S h => match S with
  | v :: .inr (.inr (.inl (some o))) :: S => match h.1 o with
    | some (.inl (cj, fs)) => if cj = ci ∧ k < fs.length ∧ xfit ty v = true then xon (pc + 3) L S (xset h o (c_O ci (fs.set k v))) else none
    | _ => none
  | _ => none
def x_ald (ka : Nat) (X : xX) : xF := fun pc L S h => match S with
  | .inl i :: .inr (.inr (.inl (some o))) :: S => match h.1 o with
    | some (.inr (.inl (k, n, f))) => if k = ka ∧ ka < 3 ∧ xin i n ∧ n < 2147483648 then xon (pc + 1) L ((if ka = 2 then vL (f i.toNat) else vI (f i.toNat)) :: S) h else none
    | some (.inr (.inr (n, f))) => if ka = 4 ∧ xin i n ∧ n < 2147483648 then xon (pc + 1) L (.inr (.inr (.inl (f i.toNat))) :: S) h else none
    | _ => none
  | .inl i :: .inr (.inr (.inr (.inl j))) :: S => if ((ka = 0 ∧ (X j).1 = 0) ∨ (ka = 1 ∧ (X j).1 = 3)) ∧ xin i (X j).2.1 ∧ (X j).2.1 < 2147483648 then xon (pc + 1) L (vI ((X j).2.2 i.toNat) :: S) h else none
  | _ => none
def x_ast (ka : Nat) : xF := fun pc L S h => match S with
  | .inl x :: .inl i :: .inr (.inr (.inl (some o))) :: S => match h.1 o with
    | some (.inr (.inl (k, n, f))) => if k = ka ∧ (ka = 0 ∨ (ka = 1 ∧ (x = 0 ∨ x = 1))) ∧ xin i n ∧ n < 2147483648 then xon (pc + 1) L S (xset h o (c_A k n (xup f i.toNat x))) else none
    | _ => none
  | .inr (.inl x) :: .inl i :: .inr (.inr (.inl (some o))) :: S => match h.1 o with
    | some (.inr (.inl (k, n, f))) => if k = ka ∧ ka = 2 ∧ xin i n ∧ n < 2147483648 then xon (pc + 1) L S (xset h o (c_A k n (xup f i.toNat x))) else none
    | _ => none
  | .inr (.inr (.inl (some v))) :: .inl i :: .inr (.inr (.inl (some o))) :: S => match h.1 o, h.1 v with
    | some (.inr (.inr (n, f))), some (.inl (cj, _)) => if ka = 4 ∧ cj = 8 ∧ xin i n ∧ n < 2147483648 then xon (pc + 1) L S (xset h o (c_R n (xup f i.toNat (some v)))) else none
    | _, _ => none
  | _ => none
def x_alen (X : xX) : xF := fun pc L S h => match S with
  | .inr (.inr (.inl (some o))) :: S => match h.1 o with
    | some (.inr (.inl (k, n, _))) => if k < 3 then xon (pc + 1) L (vI n :: S) h else none
    | _ => none
  | .inr (.inr (.inr (.inl j))) :: S => if (X j).1 = 0 ∨ (X j).1 = 3 then xon (pc + 1) L (vI (X j).2.1 :: S) h else none
  | _ => none
/-- newarray: kind 0, 1, 2 -/
def x_newa (ka : Nat) : xF := fun pc L S h => match S with
  | .inl n :: S => if 0 ≤ n ∧ n ≤ 1000000 then xon (pc + 2) L (vR h.2.1 :: S) (xnew h (c_A ka n.toNat (fun _ => 0)) n.toNat) else none
  | _ => none
def x_anew : xF := fun pc L S h => match S with
  | .inl n :: S => if 0 ≤ n ∧ n ≤ 1000000 then xon (pc + 3) L (vR h.2.1 :: S) (xnew h (c_R n.toNat (fun _ => none)) n.toNat) else none
  | _ => none
def x_new (ci : Nat) (fs : List xV) : xF := fun pc L S h => xon (pc + 3) L (vR h.2.1 :: S) (xnew h (c_O ci fs) fs.length)
/-- a call: method y of n arguments, the receiver counted; the receiver's class (0 is none: static) -/
def xrecv (ci : Nat) (h : xH) (v : xV) : Bool := match v with
  | .inr (.inr (.inl (some o))) => match h.1 o with
    | some (.inl (cj, _)) => cj == ci
    | _ => false
  | _ => false
def xrk (kind ci : Nat) (h : xH) (as : List xV) : Bool := match kind, as with
  | 0, _ => true
  | 1, _ => true
  | 2, v :: _ => xrecv ci h v
  | 3, .inr (.inr (.inl (some _))) :: _ => true
  | 4, .inr (.inr (.inr (.inr (.inl j)))) :: _ => decide (j < 14)
  | _, _ => false
def x_call (y n : Nat) (ok : xH → List xV → Bool) : xF := fun pc _ S h => if n ≤ S.length ∧ xwd (S.drop n) ≤ 8 ∧ ok h (S.take n).reverse = true then some (.inr (.inl (y, (S.take n).reverse, pc + 3, S.drop n))) else none
def x_ret (ty : Nat) : xF := fun _ _ S _ => match S with
  | [] => if ty = 4 then some (.inr (.inr none)) else none
  | [v] => if ty ≠ 3 ∧ xfit ty v = true then some (.inr (.inr (some v))) else none
  | _ => none
def x_sw (lo : Int) (ts : List Nat) (dflt : Nat) : xF := fun _ L S h => match S with
  | .inl x :: S => if xr x then (if x < lo ∨ lo + ts.length ≤ x then xon dflt L S h else xon (ts.getD (x - lo).toNat dflt) L S h) else none
  | _ => none
def xlook (ps : List (Int × Nat)) (dflt : Nat) (x : Int) : Nat := match ps with
  | [] => dflt
  | q :: ps => if x = q.1 then q.2 else xlook ps dflt x
def x_lsw (ps : List (Int × Nat)) (dflt : Nat) : xF := fun _ L S h => match S with
  | .inl x :: S => if xr x then xon (xlook ps dflt x) L S h else none
  | _ => none
def xcpy (f g : Nat → Int) (sp dp n : Nat) : Nat → Int := fun k => if dp ≤ k ∧ k < dp + n then f (sp + (k - dp)) else g k
def x_copy : xF := fun pc L S h => match S with
  | .inl n :: .inl dp :: .inr (.inr (.inl (some b))) :: .inl sp :: .inr (.inr (.inl (some a))) :: S => match h.1 a, h.1 b with
    | some (.inr (.inl (0, na, f))), some (.inr (.inl (0, nb, g))) => if 0 ≤ n ∧ 0 ≤ dp ∧ 0 ≤ sp ∧ sp + n ≤ na ∧ dp + n ≤ nb ∧ na < 2147483648 ∧ nb < 2147483648 ∧ xwd S ≤ 8 then xon (pc + 3) L S (xset h b (c_A 0 nb (xcpy f g sp.toNat dp.toNat n.toNat))) else none
    | _, _ => none
  | _ => none
/-- the clone of an outer array of ints -/
def x_clone (X : xX) : xF := fun pc L S h => match S with
  | .inr (.inr (.inr (.inl j))) :: S => if j = 3 ∧ (X 3).1 = 0 ∧ xwd S ≤ 8 then xon (pc + 3) L (vR h.2.1 :: S) (xnew h (c_A 0 7 (X 3).2.2) 7) else none
  | _ => none
/-- checkcast to int[] -/
def x_cast : xF := fun pc L S h => match S with
  | .inr (.inr (.inl (some o))) :: S => match h.1 o with
    | some (.inr (.inl (0, _, _))) => xon (pc + 3) L (vR o :: S) h
    | _ => none
  | _ => none
def xmin (x y : Int) : Int := if x ≤ y then x else y
def xmax (x y : Int) : Int := if y ≤ x then x else y
def xabs (x : Int) : Int := if 0 ≤ x then x else -x
def x_min : xF := fun pc L S h => match S with
  | .inl y :: .inl x :: S => if xr x ∧ xr y ∧ xwd S ≤ 8 then xon (pc + 3) L (vI (xmin x y) :: S) h else none
  | _ => none
def x_max : xF := fun pc L S h => match S with
  | .inl y :: .inl x :: S => if xr x ∧ xr y ∧ xwd S ≤ 8 then xon (pc + 3) L (vI (xmax x y) :: S) h else none
  | _ => none
def x_abs : xF := fun pc L S h => match S with
  | .inl x :: S => if xr x ∧ xwd S ≤ 8 then xon (pc + 3) L (vI (xabs x) :: S) h else none
  | _ => none
def x_ref (v : xV) (n : Nat) : xF := fun pc L S h => xon (pc + n) L (v :: S) h
/-- Object's own constructor: nothing -/
def x_oin : xF := fun pc L S h => match S with
  | .inr (.inr (.inl (some _))) :: S => if xwd S ≤ 8 then xon (pc + 3) L S h else none
  | _ => none
/-- a String's field -/
def x_gets (k : Nat) : xF := fun pc L S h => match S with
  | .inr (.inr (.inr (.inr (.inl j)))) :: S => if j < 14 then xon (pc + 3) L ((if k = 0 then vE (j + 5) else vI 0) :: S) h else none
  | _ => none
/-- runs: fuel, room for frames, method, pc, locals, stack, heap -/
def xq (P : Nat → Nat → Option xF) (ml : Nat → Nat) : Nat → Nat → Nat → Nat → List xV → List xV → xH → Option (Option xV × xH)
  | 0, _, _, _, _, _, _ => none
  | f + 1, d, m, pc, L, S, h => match P m pc with
    | none => none
    | some F => match F pc L S h with
      | none => none
      | some (.inl (pc2, L2, S2, h2)) => xq P ml f d m pc2 L2 S2 h2
      | some (.inr (.inl (y, as, pc2, S2))) => match d with
        | 0 => none
        | d2 + 1 => if (xlo as).length ≤ ml y then match xq P ml f d2 y 0 (xent (ml y) as) [] h with
          | none => none
          | some (r, h2) => xq P ml f (d2 + 1) m pc2 L (r.toList ++ S2) h2
          else none
      | some (.inr (.inr r)) => some (r, h)
theorem xq_mono {P : Nat → Nat → Option xF} {ml : Nat → Nat} : ∀ (f d m pc : Nat) (L S : List xV) (h : xH) (z : Option xV × xH), xq P ml f d m pc L S h = some z → xq P ml (f + 1) d m pc L S h = some z := by
  intro f
  induction f with
  | zero => intro d m pc L S h z hz; simp [xq] at hz
  | succ f ih =>
    intro d m pc L S h z hz
    rw [xq] at hz ⊢
    cases hP : P m pc with
    | none => rw [hP] at hz; cases hz
    | some F =>
      rw [hP] at hz
      dsimp only at hz ⊢
      cases hF : F pc L S h with
      | none => rw [hF] at hz; cases hz
      | some q =>
        rw [hF] at hz
        match q, hF, hz with
        | .inl (pc2, L2, S2, h2), hF, hz => exact ih _ _ _ _ _ _ _ hz
        | .inr (.inr r), hF, hz => exact hz
        | .inr (.inl (y, as, pc2, S2)), hF, hz =>
          cases d with
          | zero => cases hz
          | succ d2 =>
            dsimp only at hz ⊢
            by_cases hl : (xlo as).length ≤ ml y
            · rw [if_pos hl] at hz ⊢
              cases hc : xq P ml f d2 y 0 (xent (ml y) as) [] h with
              | none => rw [hc] at hz; cases hz
              | some w =>
                rw [hc] at hz
                rw [ih _ _ _ _ _ _ _ hc]
                obtain ⟨r, h2⟩ := w
                exact ih _ _ _ _ _ _ _ hz
            · rw [if_neg hl] at hz
              cases hz
theorem xq_le {P : Nat → Nat → Option xF} {ml : Nat → Nat} {f g d m pc : Nat} {L S : List xV} {h : xH} {z : Option xV × xH} (hfg : f ≤ g) (hz : xq P ml f d m pc L S h = some z) : xq P ml g d m pc L S h = some z := by
  induction g with
  | zero => have : f = 0 := by omega
            subst this; exact hz
  | succ g ih =>
    by_cases hg : f = g + 1
    · rw [← hg]; exact hz
    · exact xq_mono _ _ _ _ _ _ _ _ (ih (by omega))
end
section
/-! THE RELATION between the abstract machine and the kit's: values, cells, heap, locals -/
/-- the tables' numbers, the array classes, the first new address, the outer arrays' and texts' addresses, what the outer arrays hold -/
abbrev xG : Type := va_G × (Nat → ClassId) × Nat × (Nat → Option Nat) × (Nat → Nat) × xX
abbrev xG.D (G : xG) : va_G := G.1
abbrev xG.ca (G : xG) : Nat → ClassId := G.2.1
abbrev xG.N (G : xG) : Nat := G.2.2.1
abbrev xG.ea (G : xG) : Nat → Option Nat := G.2.2.2.1
abbrev xG.sa (G : xG) : Nat → Nat := G.2.2.2.2.1
abbrev xG.X (G : xG) : xX := G.2.2.2.2.2
def xc (G : xG) (v : xV) : Value := match v with
  | .inl x => .int (Int32.ofInt x)
  | .inr (.inl x) => .long (Int64.ofInt x)
  | .inr (.inr (.inl none)) => .null
  | .inr (.inr (.inl (some k))) => .ref (G.N + k)
  | .inr (.inr (.inr (.inl j))) => va_rf (G.ea j)
  | .inr (.inr (.inr (.inr (.inl j)))) => .ref (G.sa j)
  | .inr (.inr (.inr (.inr (.inr _)))) => .null
def xce (G : xG) (c : xC) : va_E := match c with
  | .inl (ci, fs) => .inr (ci, fs.map (xc G))
  | .inr (.inl (k, n, f)) => if k = 2 then .inl (G.ca 2, n, .inr (.inl (fun j => Int64.ofInt (f j)))) else .inl (G.ca k, n, .inl (fun j => Int32.ofInt (f j)))
  | .inr (.inr (n, f)) => .inl (G.ca 4, n, .inr (.inr (.inr (.inr (fun j => (f j).map (G.N + ·))))))
def xtys (G : xG) : List (ClassId × FieldType) := [(G.ca 0, .int), (G.ca 1, .boolean), (G.ca 2, .long), (G.ca 4, .object "FilmPrinter$State")]
def xA (G : xG) : Nat → Prop := fun q => G.N ≤ q
def xws (G : xG) (h : xH) : va_W := (List.range h.2.1).map (fun k => (G.N + k, xce G ((h.1 k).getD (c_A 0 0 (fun _ => 0)))))
def xRel (G : xG) (h : xH) (H : Heap) : Prop := (∀ k, (h.1 k).isSome = true ↔ k < h.2.1) ∧ va_P G.D x_cls (xws G h) H ∧ H.size = G.N + h.2.1
theorem xws_len (G : xG) (h : xH) : (xws G h).length = h.2.1 := by simp [xws]
theorem xws_get {G : xG} {h : xH} {k : Nat} {c : xC} (hk : k < h.2.1) (hc : h.1 k = some c) : (xws G h)[k]? = some (G.N + k, xce G c) := by
  simp [xws, hk, hc]
theorem xws_D (G : xG) (h : xH) : va_D (xA G) (xws G h) := by
  refine ⟨fun i j p q hp hq e => ?_, fun k q hq => ?_⟩
  · simp only [xws, List.getElem?_map, Option.map_eq_some_iff] at hp hq
    obtain ⟨a, ha, rfl⟩ := hp
    obtain ⟨b, hb, rfl⟩ := hq
    have h1 := List.getElem?_eq_some_iff.mp ha
    have h2 := List.getElem?_eq_some_iff.mp hb
    obtain ⟨q1, r1⟩ := h1
    obtain ⟨q2, r2⟩ := h2
    simp at r1 r2 e
    omega
  · simp only [xws, List.getElem?_map, Option.map_eq_some_iff] at hq
    obtain ⟨a, ha, rfl⟩ := hq
    simp [xA]
theorem xws_set {G : xG} {h : xH} {k : Nat} (c : xC) : (xws G h).set k (G.N + k, xce G c) = xws G (xset h k c) := by
  apply List.ext_getElem?
  intro i
  rw [List.getElem?_set]
  by_cases hi : k = i
  · subst hi
    simp only [if_true, xws_len]
    by_cases hl : k < h.2.1
    · simp [xws, xset, xup, hl]
    · simp [xws, xset, hl]
  · simp only [if_neg hi, xws, xset, xup, List.getElem?_map]
    by_cases hl : i < h.2.1
    · simp [hl, Ne.symm hi]
    · simp [hl]
theorem xws_new {G : xG} {h : xH} (c : xC) (sz : Nat) : xws G h ++ [(G.N + h.2.1, xce G c)] = xws G (xnew h c sz) := by
  simp only [xws, xnew, List.range_succ, List.map_append, List.map_cons, List.map_nil]
  congr 1
  · apply List.map_congr_left
    intro k hk
    have : k < h.2.1 := List.mem_range.mp hk
    have h2 : k ≠ h.2.1 := by omega
    simp [xup, h2]
  · simp [xup]
theorem xRel.lt {G : xG} {h : xH} {H : Heap} (R : xRel G h H) {k : Nat} {c : xC} (hc : h.1 k = some c) : k < h.2.1 := (R.1 k).mp (by rw [hc]; rfl)
theorem xRel.at {G : xG} {h : xH} {H : Heap} (R : xRel G h H) {k : Nat} {c : xC} (hc : h.1 k = some c) : (xws G h)[k]? = some (G.N + k, xce G c) := xws_get (R.lt hc) hc
theorem xset_some {h : xH} {k : Nat} {c : xC} (hk : k < h.2.1) (ha : ∀ k, (h.1 k).isSome = true ↔ k < h.2.1) : ∀ j, ((xset h k c).1 j).isSome = true ↔ j < (xset h k c).2.1 := by
  intro j
  by_cases hj : j = k
  · subst hj; simp [xset, xup, hk]
  · simp [xset, xup, hj, ha j]
theorem xnew_some {h : xH} {c : xC} {sz : Nat} (ha : ∀ k, (h.1 k).isSome = true ↔ k < h.2.1) : ∀ j, ((xnew h c sz).1 j).isSome = true ↔ j < (xnew h c sz).2.1 := by
  intro j
  by_cases hj : j = h.2.1
  · subst hj; simp [xnew, xup]
  · simp only [xnew, xup, if_neg hj]
    rw [ha j]
    omega
/-- the heap is no smaller than its cells ask -/
theorem xws_size {G : xG} {h : xH} {H : Heap} (hP : va_P G.D x_cls (xws G h) H) (ha : ∀ k, (h.1 k).isSome = true ↔ k < h.2.1) (hN : G.N ≤ H.size) : G.N + h.2.1 ≤ H.size := by
  by_cases hz : h.2.1 = 0
  · omega
  · have hk : h.2.1 - 1 < h.2.1 := by omega
    obtain ⟨c, hc⟩ := Option.isSome_iff_exists.mp ((ha _).mpr hk)
    have := (hP _ _ (xws_get (G := G) hk hc)).lt
    simp at this
    omega
-- locals
def xlv (G : xG) (L : List xV) : List (Nat × Value) := (List.range L.length).filterMap (fun i => match L[i]? with
  | some v => if v = vU then none else some (i, xc G v)
  | none => none)
theorem xlv_mem {G : xG} {L : List xV} {q : Nat × Value} : q ∈ xlv G L ↔ ∃ v, L[q.1]? = some v ∧ v ≠ vU ∧ q.2 = xc G v := by
  simp only [xlv, List.mem_filterMap, List.mem_range]
  constructor
  · rintro ⟨i, hi, h⟩
    have e : L[i]? = some L[i] := List.getElem?_eq_getElem hi
    rw [e] at h
    dsimp only at h
    by_cases hv : L[i] = vU
    · rw [if_pos hv] at h; cases h
    · rw [if_neg hv] at h
      cases h
      exact ⟨L[i], e, hv, rfl⟩
  · rintro ⟨v, h1, h2, h3⟩
    refine ⟨q.1, (List.getElem?_eq_some_iff.mp h1).1, ?_⟩
    rw [h1]
    dsimp only
    rw [if_neg h2, ← h3]
def xLR (G : xG) (ls : Array Slot) (nL : Nat) (L : List xV) : Prop := lv_has ls nL (xlv G L) ∧ L.length = nL
theorem xLR.at {G : xG} {ls : Array Slot} {nL : Nat} {L : List xV} (h : xLR G ls nL L) {i : Nat} {v : xV} (hi : L[i]? = some v) (hv : v ≠ vU) : ls[i]? = some (.val (xc G v)) := h.1.2.2 (i, xc G v) (xlv_mem.mpr ⟨v, hi, hv, rfl⟩)
theorem xc_cat {G : xG} {v : xV} (h : (xc G v).category = 2) : ∃ x, v = vL x := by
  match v with
  | .inl x => simp [xc, Value.category] at h
  | .inr (.inl x) => exact ⟨x, rfl⟩
  | .inr (.inr (.inl none)) => simp [xc, Value.category] at h
  | .inr (.inr (.inl (some k))) => simp [xc, Value.category] at h
  | .inr (.inr (.inr (.inl j))) =>
    cases e : G.ea j <;> simp [xc, va_rf, e, Value.category] at h
  | .inr (.inr (.inr (.inr (.inl j)))) => simp [xc, Value.category] at h
  | .inr (.inr (.inr (.inr (.inr _)))) => simp [xc, Value.category] at h
theorem xc_cat1 {G : xG} {v : xV} (h : xcat v = 1) : (xc G v).category = 1 := by
  rcases lv_cat (xc G v) with h1 | h1
  · exact h1
  · obtain ⟨x, rfl⟩ := xc_cat h1
    simp [xcat] at h
theorem xc_catE (G : xG) (v : xV) : (xc G v).category = xcat v := by
  match v with
  | .inl x => rfl
  | .inr (.inl x) => rfl
  | .inr (.inr (.inl none)) => rfl
  | .inr (.inr (.inl (some k))) => rfl
  | .inr (.inr (.inr (.inl j))) =>
    cases e : G.ea j <;> simp [xc, va_rf, e, Value.category, xcat]
  | .inr (.inr (.inr (.inr (.inl j)))) => rfl
  | .inr (.inr (.inr (.inr (.inr _)))) => rfl
theorem xc_wd (G : xG) (S : List xV) : ((S.map (xc G)).map fun v => v.category).sum = xwd S := by
  unfold xwd
  rw [List.map_map]
  congr 1
  apply List.map_congr_left
  intro v _
  exact xc_catE G v
theorem xkill_len (L : List xV) (i : Nat) : (xkill L i).length = L.length := by
  unfold xkill
  match i with
  | 0 => rfl
  | j + 1 =>
    dsimp only
    split <;> simp
theorem xkill_get {L : List xV} {i j : Nat} {w : xV} (h : (xkill L i)[j]? = some w) (hw : w ≠ vU) : L[j]? = some w ∧ ¬ (j + 1 = i ∧ ∃ x, w = vL x) := by
  unfold xkill at h
  match i with
  | 0 => exact ⟨h, fun q => by omega⟩
  | k + 1 =>
    dsimp only at h
    split at h
    · rename_i x hx
      rw [List.getElem?_set] at h
      by_cases hj : k = j
      · subst hj
        rw [if_pos rfl] at h
        split at h
        · cases h; exact absurd rfl hw
        · cases h
      · rw [if_neg hj] at h
        exact ⟨h, fun q => hj (by omega)⟩
    · rename_i hx
      refine ⟨h, fun q => ?_⟩
      obtain ⟨q1, x, rfl⟩ := q
      have : k = j := by omega
      subst this
      exact hx x h
theorem xLR_st1 {G : xG} {ls' : Array Slot} {nL : Nat} {L : List xV} {i : Nat} {v : xV} (hL : L.length = nL) (h : lv_has ls' nL ((i, xc G v) :: (xlv G L).filter (fun q => !(q.1 == i) && !(q.1 + 1 == i && q.2.category == 2)))) : xLR G ls' nL (xst1 L i v) := by
  refine ⟨⟨h.1, h.2.1, fun q hq => h.2.2 q ?_⟩, by simp [xst1, xkill_len, hL]⟩
  obtain ⟨w, h1, h2, h3⟩ := xlv_mem.mp hq
  unfold xst1 at h1
  rw [List.getElem?_set] at h1
  by_cases hi : i = q.1
  · rw [if_pos hi] at h1
    split at h1
    · cases h1
      exact List.mem_cons.mpr (Or.inl (by rw [hi, ← h3]))
    · cases h1
  · rw [if_neg hi] at h1
    obtain ⟨h4, h5⟩ := xkill_get h1 h2
    refine List.mem_cons.mpr (Or.inr (List.mem_filter.mpr ⟨xlv_mem.mpr ⟨w, h4, h2, h3⟩, ?_⟩))
    simp only [Bool.and_eq_true, Bool.not_eq_true', beq_eq_false_iff_ne, ne_eq, Bool.and_eq_false_iff]
    refine ⟨fun z => hi z.symm, ?_⟩
    by_cases hc : q.2.category = 2
    · left
      intro z
      rw [h3] at hc
      exact h5 ⟨z, xc_cat hc⟩
    · right
      exact hc
theorem xLR_st2 {G : xG} {ls' : Array Slot} {nL : Nat} {L : List xV} {i : Nat} {v : xV} (hL : L.length = nL) (h : lv_has ls' nL ((i, xc G v) :: (xlv G L).filter (fun q => !(q.1 == i) && (!(q.1 == i + 1) && !(q.1 + 1 == i && q.2.category == 2))))) : xLR G ls' nL (xst2 L i v) := by
  refine ⟨⟨h.1, h.2.1, fun q hq => h.2.2 q ?_⟩, by simp [xst2, xkill_len, hL]⟩
  obtain ⟨w, h1, h2, h3⟩ := xlv_mem.mp hq
  unfold xst2 at h1
  rw [List.getElem?_set] at h1
  by_cases hi1 : i + 1 = q.1
  · rw [if_pos hi1] at h1
    split at h1
    · cases h1
      exact absurd rfl h2
    · cases h1
  · rw [if_neg hi1, List.getElem?_set] at h1
    by_cases hi : i = q.1
    · rw [if_pos hi] at h1
      split at h1
      · cases h1
        exact List.mem_cons.mpr (Or.inl (by rw [hi, ← h3]))
      · cases h1
    · rw [if_neg hi] at h1
      obtain ⟨h4, h5⟩ := xkill_get h1 h2
      refine List.mem_cons.mpr (Or.inr (List.mem_filter.mpr ⟨xlv_mem.mpr ⟨w, h4, h2, h3⟩, ?_⟩))
      simp only [Bool.and_eq_true, Bool.not_eq_true', beq_eq_false_iff_ne, ne_eq, Bool.and_eq_false_iff]
      refine ⟨fun z => hi z.symm, fun z => hi1 z.symm, ?_⟩
      by_cases hc : q.2.category = 2
      · left
        intro z
        rw [h3] at hc
        exact h5 ⟨z, xc_cat hc⟩
      · right
        exact hc
end
section
/-! SOUNDNESS, its words -/
/-- texts of the reader: pool places -/
def x_sidx : Nat → Nat := fun j => [92, 98, 100, 101, 103, 105, 107, 109, 111, 113, 115, 117, 119, 121].getD j 0
def x_stxt : Nat → String := fun j => ["grey", "step", "length", "kind", "sound", "shot", "land", "light", "title", "cut", "if", "or", "and", "not"].getD j ""
/-- what holds of what lies outside -/
def xE (G : xG) (U : State) (H : Heap) : Prop :=
  (∀ j, (G.X j).1 = 0 → ∃ a, G.ea j = some a ∧ va_T .int a (G.X j).2.1 (fun i => .int (Int32.ofInt ((G.X j).2.2 i))) (xA G) U H) ∧
  (∀ j, (G.X j).1 = 3 → ∃ a, G.ea j = some a ∧ va_T .byte a (G.X j).2.1 (fun i => .int (Int32.ofInt ((G.X j).2.2 i))) (xA G) U H) ∧
  va_Z "FilmPrinter" "LOWEST_TERM" "[I" (va_rf (G.ea 1)) (xA G) U H ∧ va_Z "FilmPrinter" "HIGHEST_TERM" "[I" (va_rf (G.ea 2)) (xA G) U H ∧ va_Z "FilmPrinter" "FIRST_TERM" "[I" (va_rf (G.ea 3)) (xA G) U H ∧
  va_Z "java/lang/String" "COMPACT_STRINGS" "Z" (.int 1) (xA G) U H ∧ va_Z "jdk/internal/util/Preconditions" "SIOOBE_FORMATTER" "Ljava/util/function/BiFunction;" (va_rf (G.ea 4)) (xA G) U H ∧
  (∀ j, j < 14 → va_O "java/lang/String" (G.sa j) (xA G) U H ∧ va_OF "java/lang/String" "value" "[B" (va_rf (G.ea (j + 5))) (G.sa j) (xA G) U H ∧ va_OF "java/lang/String" "coder" "B" (.int 0) (G.sa j) (xA G) U H ∧ vk_R "FilmPrinter$Reader" (x_sidx j) (x_stxt j) (G.sa j) U) ∧
  (va_Nw (.fieldLinkNest "FilmPrinter$State" 21 "FilmPrinter" "FIRST_TERM" "[I" "FilmPrinter") U ∧ (∀ q ∈ [("FilmPrinter$Asker", 54, "nearest"), ("FilmPrinter$Edition", 63, "turnAfter"), ("FilmPrinter$Edition", 73, "nearest"), ("FilmPrinter$Explainer", 80, "turnAfter"), ("FilmPrinter$State", 99, "nearest")], va_Nw (.methodLinkNest q.1 q.2.1 ⟨"FilmPrinter", q.2.2, "(III)I"⟩ "FilmPrinter") U) ∧ va_Nw (.castable "[I" "java/lang/Cloneable") U ∧ (∀ a, G.ea 3 = some a → ∃ vmd : VmData, H[a]? = some { cls := G.ca 0, slots := (arrV (G.ca 0) 7 (fun i => .int (Int32.ofInt ((G.X 3).2.2 i)))).slots, vm := vmd } ∧ (∀ k, vmd ≠ .statics k) ∧ vmd ≠ .unknown ∧ ¬ xA G a)) ∧ va_AO "FilmPrinter$State" U
def xCx (G : xG) (mi n0 : Nat) (p : Program) (s : State) (m : MethodId) (args : Array Value) (meth : Method) (c : Code) : Prop :=
  p.tables.exec = Jvm.exec ∧ c.code = x_cc mi ∧ c.maxLocals = x_ml mi ∧ meth.sig.returnType = x_rt mi ∧ s.vm.findClass (x_on (x_ow mi)) = some m.cls ∧ (∀ w ∈ x_tbl, w.before args s = true) ∧ meth.locks = false ∧ ((x_nm mi).name = "<init>" → meth.name = "<init>") ∧ va_K G.D x_cls (xtys G) s ∧ xE G s s.heap ∧ s.heap.size = G.N + n0
def xW (G : xG) (p : Program) (l : Launch) (e : Env) (R : Room) (s : State) (m : MethodId) (args : Array Value) (below : List Frame) (meth : Method) (c : Code) (n0 z0 : Nat) (Q : State → Prop) (mi pc : Nat) (L S : List xV) (h : xH) : Prop :=
  ∀ (H : Heap) (locs : List Loc) (ls : Array Slot) (cells slots : Nat), xRel G h H → xLR G ls (x_ml mi) L → va_S (xA G) s.heap H locs → cells + n0 = h.2.1 → slots + z0 = h.2.2 → W p l e R s m args below meth c H locs cells slots Q (F0 m pc ls (S.map (xc G)))
def xSA (mi pc : Nat) (F : xX → xF) : Prop := ∀ (G : xG) (p : Program) (l : Launch) (e : Env) (R : Room) (s : State) (m : MethodId) (args : Array Value) (below : List Frame) (meth : Method) (c : Code) (Q : State → Prop) (n0 z0 : Nat), xCx G mi n0 p s m args meth c → ∀ (L S : List xV) (h : xH) (pc' : Nat) (L' S' : List xV) (h' : xH), F G.X pc L S h = some (.inl (pc', L', S', h')) →
  h.2.1 ≤ h'.2.1 ∧ h.2.2 ≤ h'.2.2 ∧ (h'.2.1 ≤ R.cells + n0 → h'.2.2 ≤ R.slots + z0 → 1 ≤ R.frames → 64 ≤ R.locals → xW G p l e R s m args below meth c n0 z0 Q mi pc' L' S' h' → xW G p l e R s m args below meth c n0 z0 Q mi pc L S h)
def xSB (mi pc : Nat) (F : xX → xF) : Prop := ∀ (G : xG) (p : Program) (l : Launch) (e : Env) (R : Room) (s : State) (m : MethodId) (args : Array Value) (below : List Frame) (meth : Method) (c : Code) (n0 : Nat), xCx G mi n0 p s m args meth c → ∀ (L S : List xV) (h : xH) (y : Nat) (as : List xV) (pc' : Nat) (S' : List xV), F G.X pc L S h = some (.inr (.inl (y, as, pc', S'))) →
  y < x_cnt ∧ pc' = pc + 3 ∧ ∀ (H : Heap) (locs : List Loc) (ls : Array Slot) (cells slots : Nat) (rm : Room) (Pc : Array Value → State → Prop) (Qc : Array Value → State → Outcome → State → Prop) (mc ms : Nat) (free : Addr → Prop), xRel G h H → xLR G ls (x_ml mi) L → va_S (xA G) s.heap H locs → Met l (x_nm y) (x_ws y) rm Pc Qc mc ms free → rm.cells = mc → rm.slots = ms → rm.frames + 1 ≤ R.frames → 8 + (x_ml y + 11) + rm.locals ≤ R.locals → FrameBlind Pc → (∀ U : State, U.heap = H → s.WarmedH U.vm → Pc (as.map (xc G)).toArray U) → cells + mc ≤ R.cells ∧ slots + ms ≤ R.slots →
    va_Run p l e R s m args below meth c H locs cells slots mc ms (F0 m pc ls (S.map (xc G))) (S'.map (xc G)) (Qc (as.map (xc G)).toArray) free
def xSC (mi pc : Nat) (F : xX → xF) : Prop := ∀ (X : xX) (L S : List xV) (h : xH) (r : Option xV), F X pc L S h = some (.inr (.inr r)) →
  (∃ (x : Int) (ty : FieldType), r = some (vI x) ∧ S = [vI x] ∧ decode (x_cc mi) pc = .ok (.ireturn, 1) ∧ x_rt mi = some ty ∧ narrow ty (.int (Int32.ofInt x)) = .int (Int32.ofInt x)) ∨ (∃ x : Int, r = some (vL x) ∧ S = [vL x] ∧ decode (x_cc mi) pc = .ok (.lreturn, 1) ∧ x_rt mi = some .long) ∨ (r = none ∧ S = [] ∧ decode (x_cc mi) pc = .ok (.return_, 1) ∧ x_rt mi = none)
def xSnd (mi pc : Nat) (F : xX → xF) : Prop := xSA mi pc F ∧ xSB mi pc F ∧ xSC mi pc F
/-- an instruction that neither calls nor answers -/
theorem xSnd.on {mi pc : Nat} {F : xX → xF} (hn : ∀ X L S h q, F X pc L S h ≠ some (.inr q)) (hA : xSA mi pc F) : xSnd mi pc F :=
  ⟨hA, fun G p l e R s m args below meth c n0 C L S h y as pc' S' hF => absurd hF (hn _ _ _ _ _), fun X L S h r hF => absurd hF (hn _ _ _ _ _)⟩
/-- no cell is made: the rest of the frame as it was -/
theorem xSA.same {mi pc : Nat} {F : xX → xF} (hA : ∀ (G : xG) (p : Program) (l : Launch) (e : Env) (R : Room) (s : State) (m : MethodId) (args : Array Value) (below : List Frame) (meth : Method) (c : Code) (Q : State → Prop) (n0 : Nat), xCx G mi n0 p s m args meth c → ∀ (L S : List xV) (h : xH) (pc' : Nat) (L' S' : List xV) (h' : xH), F G.X pc L S h = some (.inl (pc', L', S', h')) →
    h' = h ∧ (1 ≤ R.frames → 64 ≤ R.locals → ∀ (H : Heap) (locs : List Loc) (ls : Array Slot) (cells slots : Nat), xRel G h H → xLR G ls (x_ml mi) L → va_S (xA G) s.heap H locs → (∀ ls' : Array Slot, xLR G ls' (x_ml mi) L' → W p l e R s m args below meth c H locs cells slots Q (F0 m pc' ls' (S'.map (xc G)))) → W p l e R s m args below meth c H locs cells slots Q (F0 m pc ls (S.map (xc G))))) : xSA mi pc F := by
  intro G p l e R s m args below meth c Q n0 z0 C L S h pc' L' S' h' hF
  obtain ⟨rfl, k⟩ := hA G p l e R s m args below meth c Q n0 C L S h pc' L' S' h' hF
  refine ⟨Nat.le_refl _, Nat.le_refl _, fun _ _ r1 r2 kW H locs ls cells slots hR hL hS h1 h2 => ?_⟩
  exact k r1 r2 H locs ls cells slots hR hL hS (fun ls' hL' => kW H locs ls' cells slots hR hL' hS h1 h2)
/-- the heap's size out of what is left of the room: no cell is made but those that are counted -/
theorem W.sized {p : Program} {l : Launch} {e : Env} {R : Room} {s : State} {m : MethodId} {args : Array Value} {below : List Frame} {meth : Method} {c : Code} {H : Heap} {locs : List Loc} {cells slots : Nat} {Q : State → Prop} {g : JFrame}
    (k : H.size ≤ s.heap.size + cells → W p l e R s m args below meth c H locs cells slots Q g) : W p l e R s m args below meth c H locs cells slots Q g := by
  intro T hT X
  have h := X.same.2.2.1
  have h2 : T.heap.size ≤ s.heap.size + cells := h
  rw [hT] at h2
  exact k h2 T hT X
/-- a store: the heap behind it -/
theorem xRel_set {G : xG} {h : xH} {H H1 : Heap} {k : Nat} {c0 c : xC} {n0 cells : Nat} {s : State} (hR : xRel G h H) (hc : h.1 k = some c0) (hP : va_P G.D x_cls ((xws G h).set k (G.N + k, xce G c)) H1) (hz : H1.size ≤ s.heap.size + cells) (hs : s.heap.size = G.N + n0) (h1 : cells + n0 = h.2.1) (hS : s.heap.size ≤ H1.size) : xRel G (xset h k c) H1 := by
  rw [xws_set] at hP
  have ha := xset_some (c := c) (hR.lt hc) hR.1
  refine ⟨ha, hP, ?_⟩
  have h2 := xws_size hP ha (by omega)
  have h3 : (xset h k c).2.1 = h.2.1 := rfl
  rw [h3] at h2 ⊢
  omega
end
section
/-! SOUNDNESS of the micro-ops that leave the heap alone -/
theorem xI_lt {x y : Int} (hx : xr x) (hy : xr y) : Int32.ofInt x < Int32.ofInt y ↔ x < y := by
  rw [Int32.lt_iff_toInt_lt, Int32.toInt_ofInt_of_le (by omega) (by omega), Int32.toInt_ofInt_of_le (by omega) (by omega)]
theorem xI_le {x y : Int} (hx : xr x) (hy : xr y) : Int32.ofInt x ≤ Int32.ofInt y ↔ x ≤ y := by
  rw [Int32.le_iff_toInt_le, Int32.toInt_ofInt_of_le (by omega) (by omega), Int32.toInt_ofInt_of_le (by omega) (by omega)]
theorem xI_eq {x y : Int} (hx : xr x) (hy : xr y) : Int32.ofInt x = Int32.ofInt y ↔ x = y := by
  rw [← Int32.toInt_inj, Int32.toInt_ofInt_of_le (by omega) (by omega), Int32.toInt_ofInt_of_le (by omega) (by omega)]
theorem xL_lt {x y : Int} (hx : xrl x) (hy : xrl y) : Int64.ofInt x < Int64.ofInt y ↔ x < y := by
  rw [Int64.lt_iff_toInt_lt, Int64.toInt_ofInt_of_le (by omega) (by omega), Int64.toInt_ofInt_of_le (by omega) (by omega)]
theorem xL_eq {x y : Int} (hx : xrl x) (hy : xrl y) : Int64.ofInt x = Int64.ofInt y ↔ x = y := by
  rw [← Int64.toInt_inj, Int64.toInt_ofInt_of_le (by omega) (by omega), Int64.toInt_ofInt_of_le (by omega) (by omega)]
theorem xI_0 : (0 : Int32) = Int32.ofInt 0 := rfl
theorem xr0 : xr 0 := by decide
theorem xI_nat {x : Int} {n : Nat} (h : xin x n) (hn : n < 2147483648) : (Int32.ofInt x).toNatClampNeg = x.toNat := Int32.toNatClampNeg_ofInt_of_le (by omega) (by omega)
theorem xI_in {x : Int} {n : Nat} (h : xin x n) (hn : n < 2147483648) : vp_in (Int32.ofInt x) n := by
  unfold vp_in
  rw [xI_nat h hn, xI_0, xI_lt (by omega) xr0]
  omega
theorem xon_inj {pc pc' : Nat} {L L' S S' : List xV} {h h' : xH} (e : xon pc L S h = some (.inl (pc', L', S', h'))) : pc' = pc ∧ L' = L ∧ S' = S ∧ h' = h := by
  cases e
  exact ⟨rfl, rfl, rfl, rfl⟩
theorem xon_nr {pc : Nat} {L S : List xV} {h : xH} {q : (Nat × List xV × Nat × List xV) ⊕ (Option xV)} : xon pc L S h ≠ some (.inr q) := fun e => by cases e
section
variable {mi pc : Nat}
theorem snd_ic {b : Int} {n : Nat} (hrow : ∀ (G : xG) (p : Program) (l : Launch) (e : Env) (R : Room) (s : State) (m : MethodId) (args : Array Value) (below : List Frame) (meth : Method) (c : Code) (Q : State → Prop) (n0 : Nat), xCx G mi n0 p s m args meth c → ∀ (H : Heap) (locs : List Loc) (ls : Array Slot) (cells slots : Nat) (st : List Value), W p l e R s m args below meth c H locs cells slots Q (F0 m (pc + n) ls (.int (Int32.ofInt b) :: st)) → W p l e R s m args below meth c H locs cells slots Q (F0 m pc ls st)) : xSnd mi pc (fun _ => x_ic b n) := by
  refine xSnd.on (fun X L S h q => xon_nr) (xSA.same ?_)
  intro G p l e R s m args below meth c Q n0 C L S h pc' L' S' h' hF
  obtain ⟨rfl, rfl, rfl, rfl⟩ := xon_inj hF
  exact ⟨rfl, fun _ _ H locs ls cells slots hR hL hS k => hrow G p l e R s m args below meth c Q n0 C H locs ls cells slots _ (k ls hL)⟩
theorem snd_iconst {b : Int} (hd : decode (x_cc mi) pc = .ok (.iconst b, 1)) : xSnd mi pc (fun _ => x_ic b 1) :=
  snd_ic (fun G p l e R s m args below meth c Q n0 C H locs ls cells slots st k => lv_iconst C.1 C.2.1 hd rfl k)
theorem snd_bipush {b : Int} (hd : decode (x_cc mi) pc = .ok (.bipush b, 2)) (hv : (Int8.ofInt b).toInt32 = Int32.ofInt b) : xSnd mi pc (fun _ => x_ic b 2) :=
  snd_ic (fun G p l e R s m args below meth c Q n0 C H locs ls cells slots st k => lv_bipush C.1 C.2.1 hd hv k)
theorem snd_sipush {b : Int} (hd : decode (x_cc mi) pc = .ok (.sipush b, 3)) (hv : (Int16.ofInt b).toInt32 = Int32.ofInt b) : xSnd mi pc (fun _ => x_ic b 3) :=
  snd_ic (fun G p l e R s m args below meth c Q n0 C H locs ls cells slots st k => lv_sipush C.1 C.2.1 hd hv k)
theorem snd_ldc {b : Int} {ix : Nat} (hd : decode (x_cc mi) pc = .ok (.ldc ix, 2)) (hw : Cond.constant (x_on (x_ow mi)) ix (Int32.ofInt b) ∈ x_tbl) : xSnd mi pc (fun _ => x_ic b 2) :=
  snd_ic (fun G p l e R s m args below meth c Q n0 C H locs ls cells slots st k => lv_ldc C.1 C.2.1 C.2.2.2.2.1 (C.2.2.2.2.2.1 _ hw) hd k)
theorem snd_ldcw {b : Int} {ix : Nat} (hd : decode (x_cc mi) pc = .ok (.ldc_w ix, 3)) (hw : Cond.constant (x_on (x_ow mi)) ix (Int32.ofInt b) ∈ x_tbl) : xSnd mi pc (fun _ => x_ic b 3) :=
  snd_ic (fun G p l e R s m args below meth c Q n0 C H locs ls cells slots st k => lv_ldcw C.1 C.2.1 C.2.2.2.2.1 (C.2.2.2.2.2.1 _ hw) hd k)
theorem snd_lc {b : Int} {n : Nat} (hrow : ∀ (G : xG) (p : Program) (l : Launch) (e : Env) (R : Room) (s : State) (m : MethodId) (args : Array Value) (below : List Frame) (meth : Method) (c : Code) (Q : State → Prop) (n0 : Nat), xCx G mi n0 p s m args meth c → ∀ (H : Heap) (locs : List Loc) (ls : Array Slot) (cells slots : Nat) (st : List Value), W p l e R s m args below meth c H locs cells slots Q (F0 m (pc + n) ls (.long (Int64.ofInt b) :: st)) → W p l e R s m args below meth c H locs cells slots Q (F0 m pc ls st)) : xSnd mi pc (fun _ => x_lc b n) := by
  refine xSnd.on (fun X L S h q => xon_nr) (xSA.same ?_)
  intro G p l e R s m args below meth c Q n0 C L S h pc' L' S' h' hF
  obtain ⟨rfl, rfl, rfl, rfl⟩ := xon_inj hF
  exact ⟨rfl, fun _ _ H locs ls cells slots hR hL hS k => hrow G p l e R s m args below meth c Q n0 C H locs ls cells slots _ (k ls hL)⟩
theorem snd_lconst0 (hd : decode (x_cc mi) pc = .ok (.lconst 0, 1)) : xSnd mi pc (fun _ => x_lc 0 1) :=
  snd_lc (fun G p l e R s m args below meth c Q n0 C H locs ls cells slots st k => lv_lconst C.1 C.2.1 hd rfl k)
theorem snd_lconst1 (hd : decode (x_cc mi) pc = .ok (.lconst 1, 1)) : xSnd mi pc (fun _ => x_lc 1 1) :=
  snd_lc (fun G p l e R s m args below meth c Q n0 C H locs ls cells slots st k => lv_lconst C.1 C.2.1 hd rfl k)
theorem snd_ldc2 {b : Int} {ix : Nat} (hd : decode (x_cc mi) pc = .ok (.ldc2_w ix, 3)) (hw : Cond.constantLong (x_on (x_ow mi)) ix (Int64.ofInt b) ∈ x_tbl) : xSnd mi pc (fun _ => x_lc b 3) :=
  snd_lc (fun G p l e R s m args below meth c Q n0 C H locs ls cells slots st k => lv_ldc2 C.1 C.2.1 C.2.2.2.2.1 (C.2.2.2.2.2.1 _ hw) hd k)
theorem x_il_nr {a n : Nat} : ∀ (X : xX) L S h q, x_il a n pc L S h ≠ some (.inr q) := by
  intro X L S h q e
  unfold x_il at e
  split at e
  · exact xon_nr e
  · cases e
theorem snd_il {a n : Nat} (hrow : ∀ (G : xG) (p : Program) (l : Launch) (e : Env) (R : Room) (s : State) (m : MethodId) (args : Array Value) (below : List Frame) (meth : Method) (c : Code) (Q : State → Prop) (n0 : Nat), xCx G mi n0 p s m args meth c → ∀ (H : Heap) (locs : List Loc) (ls : Array Slot) (cells slots : Nat) (st : List Value) (x : Int32), ls[a]? = some (.val (.int x)) → W p l e R s m args below meth c H locs cells slots Q (F0 m (pc + n) ls (.int x :: st)) → W p l e R s m args below meth c H locs cells slots Q (F0 m pc ls st)) : xSnd mi pc (fun _ => x_il a n) := by
  refine xSnd.on x_il_nr (xSA.same ?_)
  intro G p l e R s m args below meth c Q n0 C L S h pc' L' S' h' hF
  unfold x_il at hF
  split at hF
  · rename_i x hx
    obtain ⟨rfl, rfl, rfl, rfl⟩ := xon_inj hF
    exact ⟨rfl, fun _ _ H locs ls cells slots hR hL hS k => hrow G p l e R s m args below meth c Q n0 C H locs ls cells slots _ _ (hL.at hx (by simp)) (k ls hL)⟩
  · cases hF
theorem snd_iload {a : Nat} (hd : decode (x_cc mi) pc = .ok (.iload a, 2)) : xSnd mi pc (fun _ => x_il a 2) :=
  snd_il (fun G p l e R s m args below meth c Q n0 C H locs ls cells slots st x hx k => lv_iload C.1 C.2.1 hd hx k)
theorem snd_iload_n {a : Fin 4} (hd : decode (x_cc mi) pc = .ok (.iload_n a, 1)) : xSnd mi pc (fun _ => x_il a.val 1) :=
  snd_il (fun G p l e R s m args below meth c Q n0 C H locs ls cells slots st x hx k => lv_iload_n C.1 C.2.1 hd rfl hx k)
theorem x_ll_nr {a n : Nat} : ∀ (X : xX) L S h q, x_ll a n pc L S h ≠ some (.inr q) := by
  intro X L S h q e
  unfold x_ll at e
  split at e
  · exact xon_nr e
  · cases e
theorem snd_ll {a n : Nat} (hrow : ∀ (G : xG) (p : Program) (l : Launch) (e : Env) (R : Room) (s : State) (m : MethodId) (args : Array Value) (below : List Frame) (meth : Method) (c : Code) (Q : State → Prop) (n0 : Nat), xCx G mi n0 p s m args meth c → ∀ (H : Heap) (locs : List Loc) (ls : Array Slot) (cells slots : Nat) (st : List Value) (x : Int64), ls[a]? = some (.val (.long x)) → W p l e R s m args below meth c H locs cells slots Q (F0 m (pc + n) ls (.long x :: st)) → W p l e R s m args below meth c H locs cells slots Q (F0 m pc ls st)) : xSnd mi pc (fun _ => x_ll a n) := by
  refine xSnd.on x_ll_nr (xSA.same ?_)
  intro G p l e R s m args below meth c Q n0 C L S h pc' L' S' h' hF
  unfold x_ll at hF
  split at hF
  · rename_i x hx
    obtain ⟨rfl, rfl, rfl, rfl⟩ := xon_inj hF
    exact ⟨rfl, fun _ _ H locs ls cells slots hR hL hS k => hrow G p l e R s m args below meth c Q n0 C H locs ls cells slots _ _ (hL.at hx (by simp)) (k ls hL)⟩
  · cases hF
theorem snd_lload {a : Nat} (hd : decode (x_cc mi) pc = .ok (.lload a, 2)) : xSnd mi pc (fun _ => x_ll a 2) :=
  snd_ll (fun G p l e R s m args below meth c Q n0 C H locs ls cells slots st x hx k => lv_lload C.1 C.2.1 hd hx k)
theorem snd_lload_n {a : Fin 4} (hd : decode (x_cc mi) pc = .ok (.lload_n a, 1)) : xSnd mi pc (fun _ => x_ll a.val 1) :=
  snd_ll (fun G p l e R s m args below meth c Q n0 C H locs ls cells slots st x hx k => lv_lload_n C.1 C.2.1 hd rfl hx k)
theorem x_al_nr {a n : Nat} : ∀ (X : xX) L S h q, x_al a n pc L S h ≠ some (.inr q) := by
  intro X L S h q e
  unfold x_al at e
  split at e <;> first | exact xon_nr e | cases e
theorem snd_al {a n : Nat} (hrow : ∀ (G : xG) (p : Program) (l : Launch) (e : Env) (R : Room) (s : State) (m : MethodId) (args : Array Value) (below : List Frame) (meth : Method) (c : Code) (Q : State → Prop) (n0 : Nat), xCx G mi n0 p s m args meth c → ∀ (H : Heap) (locs : List Loc) (ls : Array Slot) (cells slots : Nat) (st : List Value) (x : Option Nat), ls[a]? = some (.val (va_rf x)) → W p l e R s m args below meth c H locs cells slots Q (F0 m (pc + n) ls (va_rf x :: st)) → W p l e R s m args below meth c H locs cells slots Q (F0 m pc ls st)) : xSnd mi pc (fun _ => x_al a n) := by
  refine xSnd.on x_al_nr (xSA.same ?_)
  intro G p l e R s m args below meth c Q n0 C L S h pc' L' S' h' hF
  unfold x_al at hF
  split at hF
  · rename_i r hx
    obtain ⟨rfl, rfl, rfl, rfl⟩ := xon_inj hF
    refine ⟨rfl, fun _ _ H locs ls cells slots hR hL hS k => ?_⟩
    have e1 : xc G (.inr (.inr (.inl r))) = va_rf (r.map (G.N + ·)) := by cases r <;> rfl
    have e2 := hL.at hx (by simp)
    rw [e1] at e2
    refine hrow G p l e R s m args below meth c Q n0 C H locs ls cells slots _ _ e2 ?_
    rw [← e1]
    exact k ls hL
  · rename_i r hx
    obtain ⟨rfl, rfl, rfl, rfl⟩ := xon_inj hF
    exact ⟨rfl, fun _ _ H locs ls cells slots hR hL hS k => hrow G p l e R s m args below meth c Q n0 C H locs ls cells slots _ (G.ea r) (hL.at hx (by simp)) (k ls hL)⟩
  · rename_i r hx
    obtain ⟨rfl, rfl, rfl, rfl⟩ := xon_inj hF
    exact ⟨rfl, fun _ _ H locs ls cells slots hR hL hS k => hrow G p l e R s m args below meth c Q n0 C H locs ls cells slots _ (some (G.sa r)) (hL.at hx (by simp)) (k ls hL)⟩
  · cases hF
theorem snd_aload {a : Nat} (hd : decode (x_cc mi) pc = .ok (.aload a, 2)) : xSnd mi pc (fun _ => x_al a 2) :=
  snd_al (fun G p l e R s m args below meth c Q n0 C H locs ls cells slots st x hx k => by
    cases x with
    | none => exact lv_aloadN C.1 C.2.1 hd hx k
    | some x => exact lv_aload C.1 C.2.1 hd hx k)
theorem snd_aload_n {a : Fin 4} (hd : decode (x_cc mi) pc = .ok (.aload_n a, 1)) : xSnd mi pc (fun _ => x_al a.val 1) :=
  snd_al (fun G p l e R s m args below meth c Q n0 C H locs ls cells slots st x hx k => by
    cases x with
    | none => exact lv_aload_nN C.1 C.2.1 hd rfl hx k
    | some x => exact lv_aload_n C.1 C.2.1 hd rfl hx k)
theorem x_is_nr {a n : Nat} : ∀ (X : xX) L S h q, x_is a n pc L S h ≠ some (.inr q) := by
  intro X L S h q e
  unfold x_is at e
  split at e
  · split at e
    · exact xon_nr e
    · cases e
  · cases e
theorem snd_is {a n : Nat} (hrow : ∀ (G : xG) (p : Program) (l : Launch) (e : Env) (R : Room) (s : State) (m : MethodId) (args : Array Value) (below : List Frame) (meth : Method) (c : Code) (Q : State → Prop) (n0 : Nat), xCx G mi n0 p s m args meth c → ∀ (H : Heap) (locs : List Loc) (ls : Array Slot) (cells slots : Nat) (st : List Value) (x : Int32) (nL : Nat) (lv lv' : List (Nat × Value)), lv_has ls nL lv → a < nL → (a, Value.int x) :: lv.filter (fun q => !(q.1 == a) && !(q.1 + 1 == a && q.2.category == 2)) = lv' → (∀ ls' : Array Slot, lv_has ls' nL lv' → W p l e R s m args below meth c H locs cells slots Q (F0 m (pc + n) ls' st)) → W p l e R s m args below meth c H locs cells slots Q (F0 m pc ls (.int x :: st))) : xSnd mi pc (fun _ => x_is a n) := by
  refine xSnd.on x_is_nr (xSA.same ?_)
  intro G p l e R s m args below meth c Q n0 C L S h pc' L' S' h' hF
  unfold x_is at hF
  split at hF
  · split at hF
    · rename_i ha
      obtain ⟨rfl, rfl, rfl, rfl⟩ := xon_inj hF
      exact ⟨rfl, fun _ _ H locs ls cells slots hR hL hS k => hrow G p l e R s m args below meth c Q n0 C H locs ls cells slots _ _ _ _ _ hL.1 (by rw [← hL.2]; exact ha) rfl (fun ls' h' => k ls' (xLR_st1 hL.2 h'))⟩
    · cases hF
  · cases hF
theorem snd_istore {a : Nat} (hd : decode (x_cc mi) pc = .ok (.istore a, 2)) : xSnd mi pc (fun _ => x_is a 2) :=
  snd_is (fun G p l e R s m args below meth c Q n0 C H locs ls cells slots st x nL lv lv' h1 h2 h3 k => lv_istore C.1 C.2.1 hd h1 h2 h3 k)
theorem snd_istore_n {a : Fin 4} (hd : decode (x_cc mi) pc = .ok (.istore_n a, 1)) : xSnd mi pc (fun _ => x_is a.val 1) :=
  snd_is (fun G p l e R s m args below meth c Q n0 C H locs ls cells slots st x nL lv lv' h1 h2 h3 k => lv_istore_n C.1 C.2.1 hd rfl h1 h2 h3 k)
theorem x_ls_nr {a n : Nat} : ∀ (X : xX) L S h q, x_ls a n pc L S h ≠ some (.inr q) := by
  intro X L S h q e
  unfold x_ls at e
  split at e
  · split at e
    · exact xon_nr e
    · cases e
  · cases e
theorem snd_ls {a n : Nat} (hrow : ∀ (G : xG) (p : Program) (l : Launch) (e : Env) (R : Room) (s : State) (m : MethodId) (args : Array Value) (below : List Frame) (meth : Method) (c : Code) (Q : State → Prop) (n0 : Nat), xCx G mi n0 p s m args meth c → ∀ (H : Heap) (locs : List Loc) (ls : Array Slot) (cells slots : Nat) (st : List Value) (x : Int64) (nL : Nat) (lv lv' : List (Nat × Value)), lv_has ls nL lv → a + 1 < nL → (a, Value.long x) :: lv.filter (fun q => !(q.1 == a) && (!(q.1 == a + 1) && !(q.1 + 1 == a && q.2.category == 2))) = lv' → (∀ ls' : Array Slot, lv_has ls' nL lv' → W p l e R s m args below meth c H locs cells slots Q (F0 m (pc + n) ls' st)) → W p l e R s m args below meth c H locs cells slots Q (F0 m pc ls (.long x :: st))) : xSnd mi pc (fun _ => x_ls a n) := by
  refine xSnd.on x_ls_nr (xSA.same ?_)
  intro G p l e R s m args below meth c Q n0 C L S h pc' L' S' h' hF
  unfold x_ls at hF
  split at hF
  · split at hF
    · rename_i ha
      obtain ⟨rfl, rfl, rfl, rfl⟩ := xon_inj hF
      exact ⟨rfl, fun _ _ H locs ls cells slots hR hL hS k => hrow G p l e R s m args below meth c Q n0 C H locs ls cells slots _ _ _ _ _ hL.1 (by rw [← hL.2]; exact ha) rfl (fun ls' h' => k ls' (xLR_st2 hL.2 h'))⟩
    · cases hF
  · cases hF
theorem snd_lstore {a : Nat} (hd : decode (x_cc mi) pc = .ok (.lstore a, 2)) : xSnd mi pc (fun _ => x_ls a 2) :=
  snd_ls (fun G p l e R s m args below meth c Q n0 C H locs ls cells slots st x nL lv lv' h1 h2 h3 k => lv_lstore C.1 C.2.1 hd h1 h2 h3 k)
theorem snd_lstore_n {a : Fin 4} (hd : decode (x_cc mi) pc = .ok (.lstore_n a, 1)) : xSnd mi pc (fun _ => x_ls a.val 1) :=
  snd_ls (fun G p l e R s m args below meth c Q n0 C H locs ls cells slots st x nL lv lv' h1 h2 h3 k => lv_lstore_n C.1 C.2.1 hd rfl h1 h2 h3 k)
theorem x_as_nr {a n : Nat} : ∀ (X : xX) L S h q, x_as a n pc L S h ≠ some (.inr q) := by
  intro X L S h q e
  unfold x_as at e
  split at e
  · split at e
    · exact xon_nr e
    · cases e
  · cases e
theorem snd_as {a n : Nat} (hrow : ∀ (G : xG) (p : Program) (l : Launch) (e : Env) (R : Room) (s : State) (m : MethodId) (args : Array Value) (below : List Frame) (meth : Method) (c : Code) (Q : State → Prop) (n0 : Nat), xCx G mi n0 p s m args meth c → ∀ (H : Heap) (locs : List Loc) (ls : Array Slot) (cells slots : Nat) (st : List Value) (x : Option Nat) (nL : Nat) (lv lv' : List (Nat × Value)), lv_has ls nL lv → a < nL → (a, va_rf x) :: lv.filter (fun q => !(q.1 == a) && !(q.1 + 1 == a && q.2.category == 2)) = lv' → (∀ ls' : Array Slot, lv_has ls' nL lv' → W p l e R s m args below meth c H locs cells slots Q (F0 m (pc + n) ls' st)) → W p l e R s m args below meth c H locs cells slots Q (F0 m pc ls (va_rf x :: st))) : xSnd mi pc (fun _ => x_as a n) := by
  refine xSnd.on x_as_nr (xSA.same ?_)
  intro G p l e R s m args below meth c Q n0 C L S h pc' L' S' h' hF
  unfold x_as at hF
  split at hF
  · rename_i r S0
    split at hF
    · rename_i ha
      obtain ⟨rfl, rfl, rfl, rfl⟩ := xon_inj hF
      refine ⟨rfl, fun _ _ H locs ls cells slots hR hL hS k => ?_⟩
      have e1 : xc G (.inr (.inr (.inl r))) = va_rf (r.map (G.N + ·)) := by cases r <;> rfl
      show W p l e R s m args below meth c H locs cells slots Q (F0 m pc ls (xc G (.inr (.inr (.inl r))) :: List.map (xc G) S'))
      rw [e1]
      refine hrow G p l e R s m args below meth c Q n0 C H locs ls cells slots _ _ _ _ _ hL.1 (by rw [← hL.2]; exact ha) rfl (fun ls' h' => k ls' (xLR_st1 hL.2 ?_))
      rw [e1]
      exact h'
    · cases hF
  · cases hF
theorem snd_astore {a : Nat} (hd : decode (x_cc mi) pc = .ok (.astore a, 2)) : xSnd mi pc (fun _ => x_as a 2) :=
  snd_as (fun G p l e R s m args below meth c Q n0 C H locs ls cells slots st x nL lv lv' h1 h2 h3 k => by
    cases x with
    | none => exact lv_astoreN C.1 C.2.1 hd h1 h2 h3 k
    | some x => exact lv_astore C.1 C.2.1 hd h1 h2 h3 k)
theorem snd_astore_n {a : Fin 4} (hd : decode (x_cc mi) pc = .ok (.astore_n a, 1)) : xSnd mi pc (fun _ => x_as a.val 1) :=
  snd_as (fun G p l e R s m args below meth c Q n0 C H locs ls cells slots st x nL lv lv' h1 h2 h3 k => by
    cases x with
    | none => exact lv_astore_nN C.1 C.2.1 hd rfl h1 h2 h3 k
    | some x => exact lv_astore_n C.1 C.2.1 hd rfl h1 h2 h3 k)
theorem x_inc_nr {a n : Nat} {b : Int} : ∀ (X : xX) L S h q, x_inc a b n pc L S h ≠ some (.inr q) := by
  intro X L S h q e
  unfold x_inc at e
  split at e
  · exact xon_nr e
  · cases e
theorem snd_inc {a : Nat} {b : Int} (hd : decode (x_cc mi) pc = .ok (.iinc a b, 3)) : xSnd mi pc (fun _ => x_inc a b 3) := by
  refine xSnd.on x_inc_nr (xSA.same ?_)
  intro G p l e R s m args below meth c Q n0 C L S h pc' L' S' h' hF
  unfold x_inc at hF
  split at hF
  · rename_i x hx
    obtain ⟨rfl, rfl, rfl, rfl⟩ := xon_inj hF
    refine ⟨rfl, fun _ _ H locs ls cells slots hR hL hS k => ?_⟩
    have hm : (a, Value.int (Int32.ofInt x)) ∈ xlv G L := xlv_mem.mpr ⟨_, hx, by simp, rfl⟩
    obtain ⟨k0, hk0⟩ := List.getElem?_of_mem hm
    have ha : a < x_ml mi := by rw [← hL.2]; exact (List.getElem?_eq_some_iff.mp hx).1
    exact lv_iinc C.1 C.2.1 hd hL.1 hk0 (by rw [← Int32.ofInt_add]) ha rfl (fun ls' h' => k ls' (xLR_st1 hL.2 h'))
  · cases hF
end
end
section
/-! SOUNDNESS: arithmetic, stack, branches -/
section
variable {mi pc : Nat}
theorem x_bin_nr {g : Int → Int → Int} : ∀ (X : xX) L S h q, x_bin g pc L S h ≠ some (.inr q) := by
  intro X L S h q e
  unfold x_bin at e
  split at e
  · exact xon_nr e
  · cases e
theorem snd_bin {g : Int → Int → Int} (hrow : ∀ (G : xG) (p : Program) (l : Launch) (e : Env) (R : Room) (s : State) (m : MethodId) (args : Array Value) (below : List Frame) (meth : Method) (c : Code) (Q : State → Prop) (n0 : Nat), xCx G mi n0 p s m args meth c → ∀ (H : Heap) (locs : List Loc) (ls : Array Slot) (cells slots : Nat) (st : List Value) (x y : Int), W p l e R s m args below meth c H locs cells slots Q (F0 m (pc + 1) ls (.int (Int32.ofInt (g x y)) :: st)) → W p l e R s m args below meth c H locs cells slots Q (F0 m pc ls (.int (Int32.ofInt y) :: .int (Int32.ofInt x) :: st))) : xSnd mi pc (fun _ => x_bin g) := by
  refine xSnd.on x_bin_nr (xSA.same ?_)
  intro G p l e R s m args below meth c Q n0 C L S h pc' L' S' h' hF
  unfold x_bin at hF
  split at hF
  · obtain ⟨rfl, rfl, rfl, rfl⟩ := xon_inj hF
    exact ⟨rfl, fun _ _ H locs ls cells slots hR hL hS k => hrow G p l e R s m args below meth c Q n0 C H locs ls cells slots _ _ _ (k ls hL)⟩
  · cases hF
theorem snd_iadd (hd : decode (x_cc mi) pc = .ok (.iadd, 1)) : xSnd mi pc (fun _ => x_bin (· + ·)) :=
  snd_bin (fun G p l e R s m args below meth c Q n0 C H locs ls cells slots st x y k => lv_iadd C.1 C.2.1 hd (by rw [← Int32.ofInt_add]; exact k))
theorem snd_isub (hd : decode (x_cc mi) pc = .ok (.isub, 1)) : xSnd mi pc (fun _ => x_bin (· - ·)) :=
  snd_bin (fun G p l e R s m args below meth c Q n0 C H locs ls cells slots st x y k => lv_isub C.1 C.2.1 hd (by rw [← Int32.ofInt_sub]; exact k))
theorem snd_imul (hd : decode (x_cc mi) pc = .ok (.imul, 1)) : xSnd mi pc (fun _ => x_bin (· * ·)) :=
  snd_bin (fun G p l e R s m args below meth c Q n0 C H locs ls cells slots st x y k => lv_imul C.1 C.2.1 hd (by rw [← Int32.ofInt_mul]; exact k))
theorem snd_iand (hd : decode (x_cc mi) pc = .ok (.iand, 1)) : xSnd mi pc (fun _ => x_bin xband) :=
  snd_bin (fun G p l e R s m args below meth c Q n0 C H locs ls cells slots st x y k => lv_iand C.1 C.2.1 hd (by unfold xband at k; rw [Int32.ofInt_toInt] at k; exact k))
theorem snd_ior (hd : decode (x_cc mi) pc = .ok (.ior, 1)) : xSnd mi pc (fun _ => x_bin xbor) :=
  snd_bin (fun G p l e R s m args below meth c Q n0 C H locs ls cells slots st x y k => lv_ior C.1 C.2.1 hd (by unfold xbor at k; rw [Int32.ofInt_toInt] at k; exact k))
theorem snd_ishl (hd : decode (x_cc mi) pc = .ok (.ishl, 1)) : xSnd mi pc (fun _ => x_bin xshl) :=
  snd_bin (fun G p l e R s m args below meth c Q n0 C H locs ls cells slots st x y k => lv_ishl C.1 C.2.1 hd (by unfold xshl at k; rw [Int32.ofInt_toInt] at k; exact k))
theorem snd_ishr (hd : decode (x_cc mi) pc = .ok (.ishr, 1)) : xSnd mi pc (fun _ => x_bin xshr) :=
  snd_bin (fun G p l e R s m args below meth c Q n0 C H locs ls cells slots st x y k => lv_ishr C.1 C.2.1 hd (by unfold xshr at k; rw [Int32.ofInt_toInt] at k; exact k))
theorem snd_iushr (hd : decode (x_cc mi) pc = .ok (.iushr, 1)) : xSnd mi pc (fun _ => x_bin xushr) :=
  snd_bin (fun G p l e R s m args below meth c Q n0 C H locs ls cells slots st x y k => lv_iushr C.1 C.2.1 hd rfl (by unfold xushr at k; rw [Int32.ofInt_toInt] at k; exact k))
theorem xI_div {x y : Int} (hx : xr x) (hy : xr y) (h1 : y ≠ -1) : Int32.ofInt x / Int32.ofInt y = Int32.ofInt (x.tdiv y) := by
  have e1 : (-1 : Int32) = Int32.ofInt (-1) := rfl
  apply Int32.toInt_inj.mp
  rw [Int32.toInt_div_of_ne_right _ _ (by rw [e1]; intro q; exact h1 ((xI_eq hy (by decide)).mp q)), Int32.toInt_ofInt_of_le (by omega) (by omega), Int32.toInt_ofInt_of_le (by omega) (by omega)]
  have hb : (x.tdiv y).natAbs ≤ x.natAbs := by rw [Int.natAbs_tdiv]; exact Nat.div_le_self _ _
  by_cases h0 : x = -2147483648
  · by_cases h2 : y = 0
    · subst h2
      simp
    · subst h0
      have h3 : 2 ≤ y.natAbs ∨ y = 1 := by omega
      rcases h3 with h3 | h3
      · have hb2 : ((-2147483648 : Int).tdiv y).natAbs ≤ 1073741824 := by
          rw [Int.natAbs_tdiv]
          have : (-2147483648 : Int).natAbs = 2147483648 := rfl
          rw [this]
          exact Nat.div_le_of_le_mul (by omega)
        rw [Int32.toInt_ofInt_of_le (by omega) (by omega)]
      · subst h3
        rw [Int.tdiv_one, Int32.toInt_ofInt_of_le (by omega) (by omega)]
  · rw [Int32.toInt_ofInt_of_le (by omega) (by omega)]
theorem x_div_nr : ∀ (X : xX) L S h q, x_div pc L S h ≠ some (.inr q) := by
  intro X L S h q e
  unfold x_div at e
  split at e
  · split at e
    · exact xon_nr e
    · cases e
  · cases e
theorem snd_idiv (hd : decode (x_cc mi) pc = .ok (.idiv, 1)) : xSnd mi pc (fun _ => x_div) := by
  refine xSnd.on x_div_nr (xSA.same ?_)
  intro G p l e R s m args below meth c Q n0 C L S h pc' L' S' h' hF
  unfold x_div at hF
  split at hF
  · split at hF
    · rename_i hq
      obtain ⟨rfl, rfl, rfl, rfl⟩ := xon_inj hF
      refine ⟨rfl, fun _ _ H locs ls cells slots hR hL hS k => lv_idiv C.1 C.2.1 hd (fun z => hq.2.2.1 ((xI_eq hq.2.1 xr0).mp z)) ?_⟩
      rw [xI_div hq.1 hq.2.1 hq.2.2.2]
      exact k ls hL
    · cases hF
  · cases hF
theorem x_rem_nr : ∀ (X : xX) L S h q, x_rem pc L S h ≠ some (.inr q) := by
  intro X L S h q e
  unfold x_rem at e
  split at e
  · split at e
    · exact xon_nr e
    · cases e
  · cases e
theorem snd_irem (hd : decode (x_cc mi) pc = .ok (.irem, 1)) : xSnd mi pc (fun _ => x_rem) := by
  refine xSnd.on x_rem_nr (xSA.same ?_)
  intro G p l e R s m args below meth c Q n0 C L S h pc' L' S' h' hF
  unfold x_rem at hF
  split at hF
  · split at hF
    · rename_i y x S0 hq
      obtain ⟨rfl, rfl, rfl, rfl⟩ := xon_inj hF
      refine ⟨rfl, fun _ _ H locs ls cells slots hR hL hS k => lv_irem C.1 C.2.1 hd (fun z => hq.2.2.1 ((xI_eq hq.2.1 xr0).mp z)) ?_⟩
      rw [xI_div hq.1 hq.2.1 hq.2.2.2, ← Int32.ofInt_mul, ← Int32.ofInt_sub]
      have e1 : x - x.tdiv y * y = x.tmod y := by
        have := Int.mul_tdiv_add_tmod x y
        have h2 : x.tdiv y * y = y * x.tdiv y := Int.mul_comm _ _
        omega
      rw [e1]
      exact k ls hL
    · cases hF
  · cases hF
theorem x_neg_nr : ∀ (X : xX) L S h q, x_neg pc L S h ≠ some (.inr q) := by
  intro X L S h q e
  unfold x_neg at e
  split at e
  · exact xon_nr e
  · cases e
theorem snd_ineg (hd : decode (x_cc mi) pc = .ok (.ineg, 1)) : xSnd mi pc (fun _ => x_neg) := by
  refine xSnd.on x_neg_nr (xSA.same ?_)
  intro G p l e R s m args below meth c Q n0 C L S h pc' L' S' h' hF
  unfold x_neg at hF
  split at hF
  · obtain ⟨rfl, rfl, rfl, rfl⟩ := xon_inj hF
    refine ⟨rfl, fun _ _ H locs ls cells slots hR hL hS k => lv_ineg C.1 C.2.1 hd ?_⟩
    rw [← Int32.ofInt_neg]
    exact k ls hL
  · cases hF
theorem x_binl_nr {g : Int → Int → Int} : ∀ (X : xX) L S h q, x_binl g pc L S h ≠ some (.inr q) := by
  intro X L S h q e
  unfold x_binl at e
  split at e
  · exact xon_nr e
  · cases e
theorem snd_binl {g : Int → Int → Int} (hrow : ∀ (G : xG) (p : Program) (l : Launch) (e : Env) (R : Room) (s : State) (m : MethodId) (args : Array Value) (below : List Frame) (meth : Method) (c : Code) (Q : State → Prop) (n0 : Nat), xCx G mi n0 p s m args meth c → ∀ (H : Heap) (locs : List Loc) (ls : Array Slot) (cells slots : Nat) (st : List Value) (x y : Int), W p l e R s m args below meth c H locs cells slots Q (F0 m (pc + 1) ls (.long (Int64.ofInt (g x y)) :: st)) → W p l e R s m args below meth c H locs cells slots Q (F0 m pc ls (.long (Int64.ofInt y) :: .long (Int64.ofInt x) :: st))) : xSnd mi pc (fun _ => x_binl g) := by
  refine xSnd.on x_binl_nr (xSA.same ?_)
  intro G p l e R s m args below meth c Q n0 C L S h pc' L' S' h' hF
  unfold x_binl at hF
  split at hF
  · obtain ⟨rfl, rfl, rfl, rfl⟩ := xon_inj hF
    exact ⟨rfl, fun _ _ H locs ls cells slots hR hL hS k => hrow G p l e R s m args below meth c Q n0 C H locs ls cells slots _ _ _ (k ls hL)⟩
  · cases hF
theorem snd_ladd (hd : decode (x_cc mi) pc = .ok (.ladd, 1)) : xSnd mi pc (fun _ => x_binl (· + ·)) :=
  snd_binl (fun G p l e R s m args below meth c Q n0 C H locs ls cells slots st x y k => lv_ladd C.1 C.2.1 hd (by rw [← Int64.ofInt_add]; exact k))
theorem snd_lsub (hd : decode (x_cc mi) pc = .ok (.lsub, 1)) : xSnd mi pc (fun _ => x_binl (· - ·)) :=
  snd_binl (fun G p l e R s m args below meth c Q n0 C H locs ls cells slots st x y k => lv_lsub C.1 C.2.1 hd (by rw [← Int64.ofInt_sub]; exact k))
theorem snd_lmul (hd : decode (x_cc mi) pc = .ok (.lmul, 1)) : xSnd mi pc (fun _ => x_binl (· * ·)) :=
  snd_binl (fun G p l e R s m args below meth c Q n0 C H locs ls cells slots st x y k => lv_lmul C.1 C.2.1 hd (by rw [← Int64.ofInt_mul]; exact k))
theorem xL_div {x y : Int} (hx : xrl x) (hy : xrl y) (h1 : x ≠ -9223372036854775808) : Int64.ofInt x / Int64.ofInt y = Int64.ofInt (x.tdiv y) := by
  have e1 : Int64.minValue = Int64.ofInt (-9223372036854775808) := rfl
  apply Int64.toInt_inj.mp
  rw [Int64.toInt_div_of_ne_left _ _ (by rw [e1]; intro q; exact h1 ((xL_eq hx (by decide)).mp q)), Int64.toInt_ofInt_of_le (by omega) (by omega), Int64.toInt_ofInt_of_le (by omega) (by omega)]
  have hb : (x.tdiv y).natAbs ≤ x.natAbs := by rw [Int.natAbs_tdiv]; exact Nat.div_le_self _ _
  rw [Int64.toInt_ofInt_of_le (by omega) (by omega)]
theorem x_ldiv_nr : ∀ (X : xX) L S h q, x_ldiv pc L S h ≠ some (.inr q) := by
  intro X L S h q e
  unfold x_ldiv at e
  split at e
  · split at e
    · exact xon_nr e
    · cases e
  · cases e
theorem snd_ldiv (hd : decode (x_cc mi) pc = .ok (.ldiv, 1)) : xSnd mi pc (fun _ => x_ldiv) := by
  refine xSnd.on x_ldiv_nr (xSA.same ?_)
  intro G p l e R s m args below meth c Q n0 C L S h pc' L' S' h' hF
  unfold x_ldiv at hF
  split at hF
  · split at hF
    · rename_i hq
      obtain ⟨rfl, rfl, rfl, rfl⟩ := xon_inj hF
      refine ⟨rfl, fun _ _ H locs ls cells slots hR hL hS k => lv_ldiv C.1 C.2.1 hd (fun z => hq.2.2.1 ((xL_eq hq.2.1 (by decide)).mp z)) ?_⟩
      rw [xL_div hq.1 hq.2.1 hq.2.2.2]
      exact k ls hL
    · cases hF
  · cases hF
theorem x_i2l_nr : ∀ (X : xX) L S h q, x_i2l pc L S h ≠ some (.inr q) := by
  intro X L S h q e
  unfold x_i2l at e
  split at e
  · split at e
    · exact xon_nr e
    · cases e
  · cases e
theorem snd_i2l (hd : decode (x_cc mi) pc = .ok (.i2l, 1)) : xSnd mi pc (fun _ => x_i2l) := by
  refine xSnd.on x_i2l_nr (xSA.same ?_)
  intro G p l e R s m args below meth c Q n0 C L S h pc' L' S' h' hF
  unfold x_i2l at hF
  split at hF
  · split at hF
    · rename_i hq
      obtain ⟨rfl, rfl, rfl, rfl⟩ := xon_inj hF
      exact ⟨rfl, fun _ _ H locs ls cells slots hR hL hS k => lv_i2l C.1 C.2.1 hd (Int32.toInt64_ofInt hq.1 hq.2) (k ls hL)⟩
    · cases hF
  · cases hF
theorem x_l2i_nr : ∀ (X : xX) L S h q, x_l2i pc L S h ≠ some (.inr q) := by
  intro X L S h q e
  unfold x_l2i at e
  split at e
  · exact xon_nr e
  · cases e
theorem snd_l2i (hd : decode (x_cc mi) pc = .ok (.l2i, 1)) : xSnd mi pc (fun _ => x_l2i) := by
  refine xSnd.on x_l2i_nr (xSA.same ?_)
  intro G p l e R s m args below meth c Q n0 C L S h pc' L' S' h' hF
  unfold x_l2i at hF
  split at hF
  · obtain ⟨rfl, rfl, rfl, rfl⟩ := xon_inj hF
    exact ⟨rfl, fun _ _ H locs ls cells slots hR hL hS k => lv_l2i C.1 C.2.1 hd Int64.toInt32_ofInt (k ls hL)⟩
  · cases hF
theorem x_i2c_nr : ∀ (X : xX) L S h q, x_i2c pc L S h ≠ some (.inr q) := by
  intro X L S h q e
  unfold x_i2c at e
  split at e
  · exact xon_nr e
  · cases e
theorem snd_i2c (hd : decode (x_cc mi) pc = .ok (.i2c, 1)) : xSnd mi pc (fun _ => x_i2c) := by
  refine xSnd.on x_i2c_nr (xSA.same ?_)
  intro G p l e R s m args below meth c Q n0 C L S h pc' L' S' h' hF
  unfold x_i2c at hF
  split at hF
  · obtain ⟨rfl, rfl, rfl, rfl⟩ := xon_inj hF
    exact ⟨rfl, fun _ _ H locs ls cells slots hR hL hS k => lv_i2c C.1 C.2.1 hd (by unfold xi2c; rw [Int32.ofInt_toInt]) (k ls hL)⟩
  · cases hF
theorem x_lcmp_nr : ∀ (X : xX) L S h q, x_lcmp pc L S h ≠ some (.inr q) := by
  intro X L S h q e
  unfold x_lcmp at e
  split at e
  · split at e
    · exact xon_nr e
    · cases e
  · cases e
theorem snd_lcmp (hd : decode (x_cc mi) pc = .ok (.lcmp, 1)) : xSnd mi pc (fun _ => x_lcmp) := by
  refine xSnd.on x_lcmp_nr (xSA.same ?_)
  intro G p l e R s m args below meth c Q n0 C L S h pc' L' S' h' hF
  unfold x_lcmp at hF
  split at hF
  · split at hF
    · rename_i y x S0 hq
      obtain ⟨rfl, rfl, rfl, rfl⟩ := xon_inj hF
      refine ⟨rfl, fun _ _ H locs ls cells slots hR hL hS k => W.lcmp C.1 C.2.1 hd ?_⟩
      have e1 : lg_cmp (Int64.ofInt x) (Int64.ofInt y) = Int32.ofInt (xcmp x y) := by
        unfold lg_cmp xcmp
        by_cases h1 : x > y
        · rw [if_pos h1, if_pos ((xL_lt hq.2 hq.1).mpr h1)]; rfl
        · rw [if_neg h1, if_neg (fun z => h1 ((xL_lt hq.2 hq.1).mp z))]
          by_cases h2 : x = y
          · rw [if_pos h2, if_pos ((xL_eq hq.1 hq.2).mpr h2)]; rfl
          · rw [if_neg h2, if_neg (fun z => h2 ((xL_eq hq.1 hq.2).mp z))]; rfl
      rw [e1]
      exact k ls hL
    · cases hF
  · cases hF
theorem x_dup_nr : ∀ (X : xX) L S h q, x_dup pc L S h ≠ some (.inr q) := by
  intro X L S h q e
  unfold x_dup at e
  split at e
  · split at e
    · exact xon_nr e
    · cases e
  · cases e
theorem snd_dup (hd : decode (x_cc mi) pc = .ok (.dup, 1)) : xSnd mi pc (fun _ => x_dup) := by
  refine xSnd.on x_dup_nr (xSA.same ?_)
  intro G p l e R s m args below meth c Q n0 C L S h pc' L' S' h' hF
  unfold x_dup at hF
  split at hF
  · split at hF
    · rename_i hq
      obtain ⟨rfl, rfl, rfl, rfl⟩ := xon_inj hF
      exact ⟨rfl, fun _ _ H locs ls cells slots hR hL hS k => lv_dup C.1 C.2.1 hd (xc_cat1 hq) (k ls hL)⟩
    · cases hF
  · cases hF
theorem x_pop_nr : ∀ (X : xX) L S h q, x_pop pc L S h ≠ some (.inr q) := by
  intro X L S h q e
  unfold x_pop at e
  split at e
  · split at e
    · exact xon_nr e
    · cases e
  · cases e
theorem snd_pop (hd : decode (x_cc mi) pc = .ok (.pop, 1)) : xSnd mi pc (fun _ => x_pop) := by
  refine xSnd.on x_pop_nr (xSA.same ?_)
  intro G p l e R s m args below meth c Q n0 C L S h pc' L' S' h' hF
  unfold x_pop at hF
  split at hF
  · split at hF
    · rename_i hq
      obtain ⟨rfl, rfl, rfl, rfl⟩ := xon_inj hF
      exact ⟨rfl, fun _ _ H locs ls cells slots hR hL hS k => lv_pop C.1 C.2.1 hd (xc_cat1 hq) (k ls hL)⟩
    · cases hF
  · cases hF
theorem x_dup2_nr : ∀ (X : xX) L S h q, x_dup2 pc L S h ≠ some (.inr q) := by
  intro X L S h q e
  unfold x_dup2 at e
  split at e
  · split at e
    · exact xon_nr e
    · cases e
  · cases e
theorem snd_dup2 (hd : decode (x_cc mi) pc = .ok (.dup2, 1)) : xSnd mi pc (fun _ => x_dup2) := by
  refine xSnd.on x_dup2_nr (xSA.same ?_)
  intro G p l e R s m args below meth c Q n0 C L S h pc' L' S' h' hF
  unfold x_dup2 at hF
  split at hF
  · split at hF
    · rename_i hq
      obtain ⟨rfl, rfl, rfl, rfl⟩ := xon_inj hF
      exact ⟨rfl, fun _ _ H locs ls cells slots hR hL hS k => lv_dup2_11 C.1 C.2.1 hd (xc_cat1 hq.1) (xc_cat1 hq.2) (k ls hL)⟩
    · cases hF
  · cases hF
theorem x_if_nr {a t : Nat} : ∀ (X : xX) L S h q, x_if a t pc L S h ≠ some (.inr q) := by
  intro X L S h q e
  unfold x_if at e
  split at e
  · split at e
    · split at e <;> exact xon_nr e
    · cases e
  · cases e
theorem x_cmp_nr {a t : Nat} : ∀ (X : xX) L S h q, x_cmp a t pc L S h ≠ some (.inr q) := by
  intro X L S h q e
  unfold x_cmp at e
  split at e
  · split at e
    · split at e <;> exact xon_nr e
    · cases e
  · cases e
/-- the six comparisons of the machine -/
def xcondM (a : Nat) (x y : Int32) : Prop := match a with
  | 0 => x = y
  | 1 => x ≠ y
  | 2 => x < y
  | 3 => y ≤ x
  | 4 => y < x
  | _ => x ≤ y
theorem xcondM_iff {a : Nat} {x y : Int} (hx : xr x) (hy : xr y) : xcondM a (Int32.ofInt x) (Int32.ofInt y) ↔ xcondB a x y = true := by
  unfold xcondM xcondB
  match a with
  | 0 => simp [xI_eq hx hy]
  | 1 => simp [xI_eq hx hy]
  | 2 => simp [xI_lt hx hy]
  | 3 => simp [xI_le hy hx]
  | 4 => simp [xI_lt hy hx]
  | _ + 5 => simp [xI_le hx hy]
theorem snd_if {a t : Nat} (hrow : ∀ (G : xG) (p : Program) (l : Launch) (e : Env) (R : Room) (s : State) (m : MethodId) (args : Array Value) (below : List Frame) (meth : Method) (c : Code) (Q : State → Prop) (n0 : Nat), xCx G mi n0 p s m args meth c → ∀ (H : Heap) (locs : List Loc) (ls : Array Slot) (cells slots : Nat) (st : List Value) (x : Int32), (xcondM a x 0 → W p l e R s m args below meth c H locs cells slots Q (F0 m t ls st)) → (¬ xcondM a x 0 → W p l e R s m args below meth c H locs cells slots Q (F0 m (pc + 3) ls st)) → W p l e R s m args below meth c H locs cells slots Q (F0 m pc ls (.int x :: st))) : xSnd mi pc (fun _ => x_if a t) := by
  refine xSnd.on x_if_nr (xSA.same ?_)
  intro G p l e R s m args below meth c Q n0 C L S h pc' L' S' h' hF
  unfold x_if at hF
  split at hF
  · split at hF
    · rename_i hq
      split at hF
      · rename_i hc
        obtain ⟨rfl, rfl, rfl, rfl⟩ := xon_inj hF
        exact ⟨rfl, fun _ _ H locs ls cells slots hR hL hS k => hrow G p l e R s m args below meth c Q n0 C H locs ls cells slots _ _ (fun _ => k ls hL) (fun z => absurd ((xcondM_iff hq xr0).mpr hc) z)⟩
      · rename_i hc
        obtain ⟨rfl, rfl, rfl, rfl⟩ := xon_inj hF
        exact ⟨rfl, fun _ _ H locs ls cells slots hR hL hS k => hrow G p l e R s m args below meth c Q n0 C H locs ls cells slots _ _ (fun z => absurd ((xcondM_iff hq xr0).mp z) hc) (fun _ => k ls hL)⟩
    · cases hF
  · cases hF
theorem snd_cmp {a t : Nat} (hrow : ∀ (G : xG) (p : Program) (l : Launch) (e : Env) (R : Room) (s : State) (m : MethodId) (args : Array Value) (below : List Frame) (meth : Method) (c : Code) (Q : State → Prop) (n0 : Nat), xCx G mi n0 p s m args meth c → ∀ (H : Heap) (locs : List Loc) (ls : Array Slot) (cells slots : Nat) (st : List Value) (x y : Int32), (xcondM a x y → W p l e R s m args below meth c H locs cells slots Q (F0 m t ls st)) → (¬ xcondM a x y → W p l e R s m args below meth c H locs cells slots Q (F0 m (pc + 3) ls st)) → W p l e R s m args below meth c H locs cells slots Q (F0 m pc ls (.int y :: .int x :: st))) : xSnd mi pc (fun _ => x_cmp a t) := by
  refine xSnd.on x_cmp_nr (xSA.same ?_)
  intro G p l e R s m args below meth c Q n0 C L S h pc' L' S' h' hF
  unfold x_cmp at hF
  split at hF
  · split at hF
    · rename_i hq
      split at hF
      · rename_i hc
        obtain ⟨rfl, rfl, rfl, rfl⟩ := xon_inj hF
        exact ⟨rfl, fun _ _ H locs ls cells slots hR hL hS k => hrow G p l e R s m args below meth c Q n0 C H locs ls cells slots _ _ _ (fun _ => k ls hL) (fun z => absurd ((xcondM_iff hq.1 hq.2).mpr hc) z)⟩
      · rename_i hc
        obtain ⟨rfl, rfl, rfl, rfl⟩ := xon_inj hF
        exact ⟨rfl, fun _ _ H locs ls cells slots hR hL hS k => hrow G p l e R s m args below meth c Q n0 C H locs ls cells slots _ _ _ (fun z => absurd ((xcondM_iff hq.1 hq.2).mp z) hc) (fun _ => k ls hL)⟩
    · cases hF
  · cases hF
theorem snd_if_eq {t : Nat} (hd : decode (x_cc mi) pc = .ok (.ifCond .eq ((t : Int) - (pc : Int)), 3)) : xSnd mi pc (fun _ => x_if 0 t) :=
  snd_if (fun G p l e R s m args below meth c Q n0 C H locs ls cells slots st x kt kf => lv_if_eq (tgt := t) C.1 C.2.1 hd (by omega) kt kf)
theorem snd_cmp_eq {t : Nat} (hd : decode (x_cc mi) pc = .ok (.if_icmp .eq ((t : Int) - (pc : Int)), 3)) : xSnd mi pc (fun _ => x_cmp 0 t) :=
  snd_cmp (fun G p l e R s m args below meth c Q n0 C H locs ls cells slots st x y kt kf => lv_icmp_eq (tgt := t) C.1 C.2.1 hd (by omega) kt kf)
theorem snd_if_ne {t : Nat} (hd : decode (x_cc mi) pc = .ok (.ifCond .ne ((t : Int) - (pc : Int)), 3)) : xSnd mi pc (fun _ => x_if 1 t) :=
  snd_if (fun G p l e R s m args below meth c Q n0 C H locs ls cells slots st x kt kf => lv_if_ne (tgt := t) C.1 C.2.1 hd (by omega) kt (fun h => kf (fun z => z h)))
theorem snd_cmp_ne {t : Nat} (hd : decode (x_cc mi) pc = .ok (.if_icmp .ne ((t : Int) - (pc : Int)), 3)) : xSnd mi pc (fun _ => x_cmp 1 t) :=
  snd_cmp (fun G p l e R s m args below meth c Q n0 C H locs ls cells slots st x y kt kf => lv_icmp_ne (tgt := t) C.1 C.2.1 hd (by omega) kt (fun h => kf (fun z => z h)))
theorem snd_if_lt {t : Nat} (hd : decode (x_cc mi) pc = .ok (.ifCond .lt ((t : Int) - (pc : Int)), 3)) : xSnd mi pc (fun _ => x_if 2 t) :=
  snd_if (fun G p l e R s m args below meth c Q n0 C H locs ls cells slots st x kt kf => lv_if_lt (tgt := t) C.1 C.2.1 hd (by omega) kt kf)
theorem snd_cmp_lt {t : Nat} (hd : decode (x_cc mi) pc = .ok (.if_icmp .lt ((t : Int) - (pc : Int)), 3)) : xSnd mi pc (fun _ => x_cmp 2 t) :=
  snd_cmp (fun G p l e R s m args below meth c Q n0 C H locs ls cells slots st x y kt kf => lv_icmp_lt (tgt := t) C.1 C.2.1 hd (by omega) kt kf)
theorem snd_if_ge {t : Nat} (hd : decode (x_cc mi) pc = .ok (.ifCond .ge ((t : Int) - (pc : Int)), 3)) : xSnd mi pc (fun _ => x_if 3 t) :=
  snd_if (fun G p l e R s m args below meth c Q n0 C H locs ls cells slots st x kt kf => lv_if_ge (tgt := t) C.1 C.2.1 hd (by omega) kt kf)
theorem snd_cmp_ge {t : Nat} (hd : decode (x_cc mi) pc = .ok (.if_icmp .ge ((t : Int) - (pc : Int)), 3)) : xSnd mi pc (fun _ => x_cmp 3 t) :=
  snd_cmp (fun G p l e R s m args below meth c Q n0 C H locs ls cells slots st x y kt kf => lv_icmp_ge (tgt := t) C.1 C.2.1 hd (by omega) kt kf)
theorem snd_if_gt {t : Nat} (hd : decode (x_cc mi) pc = .ok (.ifCond .gt ((t : Int) - (pc : Int)), 3)) : xSnd mi pc (fun _ => x_if 4 t) :=
  snd_if (fun G p l e R s m args below meth c Q n0 C H locs ls cells slots st x kt kf => lv_if_gt (tgt := t) C.1 C.2.1 hd (by omega) kt kf)
theorem snd_cmp_gt {t : Nat} (hd : decode (x_cc mi) pc = .ok (.if_icmp .gt ((t : Int) - (pc : Int)), 3)) : xSnd mi pc (fun _ => x_cmp 4 t) :=
  snd_cmp (fun G p l e R s m args below meth c Q n0 C H locs ls cells slots st x y kt kf => lv_icmp_gt (tgt := t) C.1 C.2.1 hd (by omega) kt kf)
theorem snd_if_le {t : Nat} (hd : decode (x_cc mi) pc = .ok (.ifCond .le ((t : Int) - (pc : Int)), 3)) : xSnd mi pc (fun _ => x_if 5 t) :=
  snd_if (fun G p l e R s m args below meth c Q n0 C H locs ls cells slots st x kt kf => lv_if_le (tgt := t) C.1 C.2.1 hd (by omega) kt kf)
theorem snd_cmp_le {t : Nat} (hd : decode (x_cc mi) pc = .ok (.if_icmp .le ((t : Int) - (pc : Int)), 3)) : xSnd mi pc (fun _ => x_cmp 5 t) :=
  snd_cmp (fun G p l e R s m args below meth c Q n0 C H locs ls cells slots st x y kt kf => lv_icmp_le (tgt := t) C.1 C.2.1 hd (by omega) kt kf)
theorem snd_goto {t : Nat} (hd : decode (x_cc mi) pc = .ok (.goto ((t : Int) - (pc : Int)), 3)) : xSnd mi pc (fun _ => x_goto t) := by
  refine xSnd.on (fun X L S h q => xon_nr) (xSA.same ?_)
  intro G p l e R s m args below meth c Q n0 C L S h pc' L' S' h' hF
  obtain ⟨rfl, rfl, rfl, rfl⟩ := xon_inj hF
  exact ⟨rfl, fun _ _ H locs ls cells slots hR hL hS k => lv_goto C.1 C.2.1 hd (by omega) (k ls hL)⟩
theorem x_nnul_nr {t : Nat} : ∀ (X : xX) L S h q, x_nnul t pc L S h ≠ some (.inr q) := by
  intro X L S h q e
  unfold x_nnul at e
  split at e <;> first | exact xon_nr e | cases e
theorem snd_nnul {t : Nat} (hd : decode (x_cc mi) pc = .ok (.ifnonnull ((t : Int) - (pc : Int)), 3)) : xSnd mi pc (fun _ => x_nnul t) := by
  refine xSnd.on x_nnul_nr (xSA.same ?_)
  intro G p l e R s m args below meth c Q n0 C L S h pc' L' S' h' hF
  unfold x_nnul at hF
  split at hF
  · obtain ⟨rfl, rfl, rfl, rfl⟩ := xon_inj hF
    exact ⟨rfl, fun _ _ H locs ls cells slots hR hL hS k => lv_ifnonnullN C.1 C.2.1 hd (k ls hL)⟩
  · obtain ⟨rfl, rfl, rfl, rfl⟩ := xon_inj hF
    exact ⟨rfl, fun _ _ H locs ls cells slots hR hL hS k => lv_ifnonnull C.1 C.2.1 hd (by omega) (k ls hL)⟩
  · cases hF
end
end
section
/-! SOUNDNESS: fields and arrays -/
def xtyk (kind : Nat) (ty : FieldType) : Bool := match kind, ty with
  | 0, .int => true
  | 1, .boolean => true
  | 2, .long => true
  | 3, .object _ => true
  | 3, .array _ => true
  | 5, .byte => true
  | 6, .char => true
  | _, _ => false
theorem xfit_ok {G : xG} {kind : Nat} {ty : FieldType} {v : xV} (hk : xtyk kind ty = true) (h : xfit kind v = true) : narrow ty (xc G v) = xc G v ∧ fits ty (xc G v) = true := by
  unfold xtyk at hk
  split at hk
  · match v, h with
    | .inl x, _ => exact ⟨rfl, rfl⟩
  · match v, h with
    | .inl x, h =>
      simp only [xfit, decide_eq_true_eq] at h
      rcases h with rfl | rfl <;> exact ⟨rfl, rfl⟩
  · match v, h with
    | .inr (.inl x), _ => exact ⟨rfl, rfl⟩
  · match v, h with
    | .inr (.inr (.inl none)), _ => exact ⟨rfl, rfl⟩
    | .inr (.inr (.inl (some k))), _ => exact ⟨rfl, rfl⟩
  · match v, h with
    | .inr (.inr (.inl none)), _ => exact ⟨rfl, rfl⟩
    | .inr (.inr (.inl (some k))), _ => exact ⟨rfl, rfl⟩
  · match v, h with
    | .inl x, h =>
      simp only [xfit, decide_eq_true_eq] at h
      subst h; exact ⟨rfl, rfl⟩
  · match v, h with
    | .inl x, h =>
      simp only [xfit, decide_eq_true_eq] at h
      have e : Int32.ofInt x = nI x.toNat := by
        have : ((x.toNat : Nat) : Int) = x := Int.toNat_of_nonneg h.1
        show Int32.ofInt x = Int32.ofNat x.toNat
        rw [← Int32.ofInt_eq_ofNat, this]
      show narrow .char (.int (Int32.ofInt x)) = .int (Int32.ofInt x) ∧ fits .char (.int (Int32.ofInt x)) = true
      rw [e]
      exact pk_charN (by omega)
  · cases hk
section
variable {mi pc : Nat}
theorem x_getf_nr {ci k : Nat} : ∀ (X : xX) L S h q, x_getf ci k pc L S h ≠ some (.inr q) := by
  intro X L S h q e
  unfold x_getf at e
  repeat' split at e
  all_goals first | exact xon_nr e | cases e
theorem snd_getf {ci k ix : Nat} {q : vw_C} (hd : decode (x_cc mi) pc = .ok (.getfield ix, 3)) (hc : x_cls[ci]? = some q) (hk : k < q.2.2) (hw : Cond.fieldLink (x_on (x_ow mi)) ix (q.2.1 k).1 (q.2.1 k).2.1 (q.2.1 k).2.2.1 ∈ x_tbl) : xSnd mi pc (fun _ => x_getf ci k) := by
  refine xSnd.on x_getf_nr (xSA.same ?_)
  intro G p l e R s m args below meth c Q n0 C L S h pc' L' S' h' hF
  unfold x_getf at hF
  split at hF
  · rename_i o S0
    split at hF
    · rename_i cj fs ho
      split at hF
      · rename_i hj
        subst hj
        split at hF
        · rename_i v hv
          obtain ⟨rfl, rfl, rfl, rfl⟩ := xon_inj hF
          refine ⟨rfl, fun _ _ H locs ls cells slots hR hL hS k0 => ?_⟩
          exact va_get C.1 C.2.1 C.2.2.2.2.2.1 (x_cls_ok _ _ hc).1 C.2.2.2.2.1 C.2.2.2.2.2.2.2.2.1 hR.2.1 o (hR.at ho) hc k hk (C.2.2.2.2.2.1 _ hw) (fun x h => h) (by rw [List.getElem?_map, hv]; rfl) hd (k0 ls hL)
        · cases hF
      · cases hF
    · cases hF
  · cases hF
theorem x_putf_nr {ci k ty : Nat} : ∀ (X : xX) L S h q, x_putf ci k ty pc L S h ≠ some (.inr q) := by
  intro X L S h q e
  unfold x_putf at e
  repeat' split at e
  all_goals first | exact xon_nr e | cases e
theorem snd_putf {ci k kd ix : Nat} {q : vw_C} {ty : FieldType} (hd : decode (x_cc mi) pc = .ok (.putfield ix, 3)) (hc : x_cls[ci]? = some q) (hk : k < q.2.2) (hw : Cond.fieldLink (x_on (x_ow mi)) ix (q.2.1 k).1 (q.2.1 k).2.1 (q.2.1 k).2.2.1 ∈ x_tbl) (hty : parseFieldDescriptor (q.2.1 k).2.2.1 = some ty) (hkd : xtyk kd ty = true)
    (hfin : (q.2.1 k).2.2.2 = false ∨ ((q.2.1 k).2.2.2 = true ∧ (x_nm mi).name = "<init>" ∧ (q.2.1 k).1 = x_on (x_ow mi))) : xSnd mi pc (fun _ => x_putf ci k kd) := by
  refine xSnd.on x_putf_nr ?_
  intro G p l e R s m args below meth c Q n0 z0 C L S h pc' L' S' h' hF
  unfold x_putf at hF
  dsimp only at hF
  split at hF
  · rename_i v o S0
    split at hF
    · rename_i cj fs ho
      split at hF
      · rename_i hj
        obtain ⟨rfl, hkl, hfit⟩ := hj
        obtain ⟨rfl, rfl, rfl, rfl⟩ := xon_inj hF
        refine ⟨Nat.le_refl _, Nat.le_refl _, fun _ _ _ _ kW H locs ls cells slots hR hL hS h1 h2 => ?_⟩
        obtain ⟨hi1, ⟨ty0, hty0⟩, hnm⟩ := x_cls_ok _ _ hc
        obtain ⟨f1, f2⟩ := xfit_ok (G := G) hkd hfit
        have kk : ∀ (H1 : Heap) (locs1 : List Loc), va_P G.D x_cls ((xws G h).set o (G.N + o, .inr (cj, (fs.map (xc G)).set k (xc G v)))) H1 → va_D (xA G) ((xws G h).set o (G.N + o, .inr (cj, (fs.map (xc G)).set k (xc G v)))) → va_S (xA G) s.heap H1 locs1 → W p l e R s m args below meth c H1 locs1 cells slots Q (F0 m (pc + 3) ls (S'.map (xc G))) := by
          intro H1 locs1 hP1 _ hS1
          refine W.sized (fun hz => ?_)
          refine kW H1 locs1 ls cells slots (xRel_set hR ho ?_ hz C.2.2.2.2.2.2.2.2.2.2 h1 hS1.1) hL hS1 h1 h2
          show va_P G.D x_cls ((xws G h).set o (G.N + o, .inr (cj, (fs.set k v).map (xc G)))) H1
          rw [List.map_set]
          exact hP1
        rcases hfin with hfin | ⟨hfin, hini, hdecl⟩
        · exact va_put C.1 C.2.1 C.2.2.2.2.2.1 hi1 ty0 hty0 hnm C.2.2.2.2.1 C.2.2.2.2.2.2.2.2.1 hR.2.1 (xws_D G h) hS o (hR.at ho) hc k hk (C.2.2.2.2.2.1 _ hw) (fun x h => h) hfin hty f1 f2 (by simpa using hkl) hd kk
        · exact va_putF C.1 C.2.1 C.2.2.2.2.2.1 hi1 ty0 hty0 hnm C.2.2.2.2.1 C.2.2.2.2.2.2.2.2.1 hR.2.1 (xws_D G h) hS o (hR.at ho) hc k hk (C.2.2.2.2.2.1 _ hw) (fun x h => h) hfin (C.2.2.2.2.2.2.2.1 hini) hdecl hty f1 f2 (by simpa using hkl) hd kk
      · cases hF
    · cases hF
  · cases hF
theorem x_ald_nr {ka : Nat} : ∀ (X : xX) L S h q, x_ald ka X pc L S h ≠ some (.inr q) := by
  intro X L S h q e
  unfold x_ald at e
  repeat' split at e
  all_goals first | exact xon_nr e | cases e
/-- an outer array's place -/
theorem va_tld {p : Program} {l : Launch} {e : Env} {R : Room} {s : State} {m : MethodId} {args : Array Value} {below : List Frame} {meth : Method} {c : Code} {H : Heap} {locs : List Loc} {cells slots : Nat} {Q : State → Prop} {cc : ByteArray} {ls : Array Slot} {rest : List Value} {A : Nat → Prop} {t N : Nat} {f : Nat → Int32} (hexec : p.tables.exec = Jvm.exec) (hb : c.code = cc) (hT : va_T .int t N (fun i => .int (f i)) A s s.heap) (hS : va_S A s.heap H locs) {i : Int32} (hin : vp_in i N) (hN : N < 2 ^ 31) (hdg : decode cc pc = .ok (.iaload, 1))
    (kk : W p l e R s m args below meth c H locs cells slots Q (F0 m (pc + 1) ls (.int (f i.toNatClampNeg) :: rest))) : W p l e R s m args below meth c H locs cells slots Q (F0 m pc ls (.int i :: .ref t :: rest)) := by
  obtain ⟨cell, h1, h2, h3, h4, h5, h6, h7⟩ := hT.kept hS.2.1
  have hlt : i.toNatClampNeg < N := Nat.not_le.mp fun q => hin (Or.inr q)
  exact W.iald (v := .int (f i.toNatClampNeg)) hexec hb h1 h2 h3 (fun q => hin (q.elim Or.inl (fun z => Or.inr (Nat.le_trans h4 z)))) (h6 _ hlt) rfl rfl hdg kk
theorem va_tbld {p : Program} {l : Launch} {e : Env} {R : Room} {s : State} {m : MethodId} {args : Array Value} {below : List Frame} {meth : Method} {c : Code} {H : Heap} {locs : List Loc} {cells slots : Nat} {Q : State → Prop} {cc : ByteArray} {ls : Array Slot} {rest : List Value} {A : Nat → Prop} {t N : Nat} {f : Nat → Int32} (hexec : p.tables.exec = Jvm.exec) (hb : c.code = cc) (hT : va_T .byte t N (fun i => .int (f i)) A s s.heap) (hS : va_S A s.heap H locs) {i : Int32} (hin : vp_in i N) (hN : N < 2 ^ 31) (hdg : decode cc pc = .ok (.baload, 1))
    (kk : W p l e R s m args below meth c H locs cells slots Q (F0 m (pc + 1) ls (.int (f i.toNatClampNeg) :: rest))) : W p l e R s m args below meth c H locs cells slots Q (F0 m pc ls (.int i :: .ref t :: rest)) := by
  obtain ⟨cell, h1, h2, h3, h4, h5, h6, h7⟩ := hT.kept hS.2.1
  have hlt : i.toNatClampNeg < N := Nat.not_le.mp fun q => hin (Or.inr q)
  exact W.bald (v := .int (f i.toNatClampNeg)) hexec hb h1 h2 h3 (fun q => hin (q.elim Or.inl (fun z => Or.inr (Nat.le_trans h4 z)))) (h6 _ hlt) rfl rfl hdg kk
theorem snd_iald (hd : decode (x_cc mi) pc = .ok (.iaload, 1)) : xSnd mi pc (fun X => x_ald 0 X) := by
  refine xSnd.on x_ald_nr (xSA.same ?_)
  intro G p l e R s m args below meth c Q n0 C L S h pc' L' S' h' hF
  unfold x_ald at hF
  split at hF
  · rename_i i o S0
    split at hF
    · rename_i k n f ho
      split at hF
      · rename_i hq
        obtain ⟨rfl, -, hq2, hq3⟩ := hq
        obtain ⟨rfl, rfl, rfl, rfl⟩ := xon_inj hF
        refine ⟨rfl, fun _ _ H locs ls cells slots hR hL hS k0 => ?_⟩
        refine va_iald C.1 C.2.1 C.2.2.2.2.2.2.2.2.1 hR.2.1 o 0 (hR.at ho) rfl (xI_in hq2 hq3) hd ?_
        rw [xI_nat hq2 hq3]
        exact k0 ls hL
      · cases hF
    · rename_i n f ho
      split at hF
      · rename_i hq; exact absurd hq.1 (by decide)
      · cases hF
    · cases hF
  · rename_i i j S0
    split at hF
    · rename_i hq
      obtain ⟨hq1, hq2, hq3⟩ := hq
      have hq1 : (G.X j).1 = 0 := by
        rcases hq1 with h | h
        · exact h.2
        · exact absurd h.1 (by decide)
      obtain ⟨rfl, rfl, rfl, rfl⟩ := xon_inj hF
      refine ⟨rfl, fun _ _ H locs ls cells slots hR hL hS k0 => ?_⟩
      obtain ⟨a, ha, hT⟩ := C.2.2.2.2.2.2.2.2.2.1.1 j hq1
      have hk := k0 ls hL
      show W p l e R s m args below meth c H locs cells slots Q (F0 m pc ls (.int (Int32.ofInt i) :: va_rf (G.ea j) :: List.map (xc G) S0))
      rw [ha]
      refine va_tld (f := fun i => Int32.ofInt ((G.X j).2.2 i)) C.1 C.2.1 hT hS (xI_in hq2 hq3) hq3 hd ?_
      rw [xI_nat hq2 hq3]
      exact hk
    · cases hF
  · cases hF
theorem snd_bald (hd : decode (x_cc mi) pc = .ok (.baload, 1)) : xSnd mi pc (fun X => x_ald 1 X) := by
  refine xSnd.on x_ald_nr (xSA.same ?_)
  intro G p l e R s m args below meth c Q n0 C L S h pc' L' S' h' hF
  unfold x_ald at hF
  split at hF
  · rename_i i o S0
    split at hF
    · rename_i k n f ho
      split at hF
      · rename_i hq
        obtain ⟨rfl, -, hq2, hq3⟩ := hq
        obtain ⟨rfl, rfl, rfl, rfl⟩ := xon_inj hF
        refine ⟨rfl, fun _ _ H locs ls cells slots hR hL hS k0 => ?_⟩
        refine va_zald C.1 C.2.1 C.2.2.2.2.2.2.2.2.1 hR.2.1 o 1 (hR.at ho) rfl (xI_in hq2 hq3) hd ?_
        rw [xI_nat hq2 hq3]
        exact k0 ls hL
      · cases hF
    · rename_i n f ho
      split at hF
      · rename_i hq; exact absurd hq.1 (by decide)
      · cases hF
    · cases hF
  · rename_i i j S0
    split at hF
    · rename_i hq
      obtain ⟨hq1, hq2, hq3⟩ := hq
      have hq1 : (G.X j).1 = 3 := by
        rcases hq1 with h | h
        · exact absurd h.1 (by decide)
        · exact h.2
      obtain ⟨rfl, rfl, rfl, rfl⟩ := xon_inj hF
      refine ⟨rfl, fun _ _ H locs ls cells slots hR hL hS k0 => ?_⟩
      obtain ⟨a, ha, hT⟩ := C.2.2.2.2.2.2.2.2.2.1.2.1 j hq1
      have hk := k0 ls hL
      show W p l e R s m args below meth c H locs cells slots Q (F0 m pc ls (.int (Int32.ofInt i) :: va_rf (G.ea j) :: List.map (xc G) S0))
      rw [ha]
      refine va_tbld (f := fun i => Int32.ofInt ((G.X j).2.2 i)) C.1 C.2.1 hT hS (xI_in hq2 hq3) hq3 hd ?_
      rw [xI_nat hq2 hq3]
      exact hk
    · cases hF
  · cases hF
theorem snd_lald (hd : decode (x_cc mi) pc = .ok (.laload, 1)) : xSnd mi pc (fun X => x_ald 2 X) := by
  refine xSnd.on x_ald_nr (xSA.same ?_)
  intro G p l e R s m args below meth c Q n0 C L S h pc' L' S' h' hF
  unfold x_ald at hF
  split at hF
  · rename_i i o S0
    split at hF
    · rename_i k n f ho
      split at hF
      · rename_i hq
        obtain ⟨rfl, -, hq2, hq3⟩ := hq
        obtain ⟨rfl, rfl, rfl, rfl⟩ := xon_inj hF
        refine ⟨rfl, fun _ _ H locs ls cells slots hR hL hS k0 => ?_⟩
        refine va_lald C.1 C.2.1 C.2.2.2.2.2.2.2.2.1 hR.2.1 o 2 (hR.at ho) rfl (xI_in hq2 hq3) hd ?_
        rw [xI_nat hq2 hq3]
        exact k0 ls hL
      · cases hF
    · rename_i n f ho
      split at hF
      · rename_i hq; exact absurd hq.1 (by decide)
      · cases hF
    · cases hF
  · rename_i i j S0
    split at hF
    · rename_i hq
      rcases hq.1 with h | h
      · exact absurd h.1 (by decide)
      · exact absurd h.1 (by decide)
    · cases hF
  · cases hF
theorem snd_aald (hd : decode (x_cc mi) pc = .ok (.aaload, 1)) : xSnd mi pc (fun X => x_ald 4 X) := by
  refine xSnd.on x_ald_nr ?_
  intro G p l e R s m args below meth c Q n0 z0 C L S h pc' L' S' h' hF
  unfold x_ald at hF
  dsimp only at hF
  split at hF
  · rename_i i o S0
    split at hF
    · rename_i k n f ho
      split at hF
      · rename_i hq
        exact absurd hq.2.1 (by decide)
      · cases hF
    · rename_i n f ho
      split at hF
      · rename_i hq
        obtain ⟨-, hq2, hq3⟩ := hq
        obtain ⟨rfl, rfl, rfl, rfl⟩ := xon_inj hF
        refine ⟨Nat.le_refl _, Nat.le_refl _, fun _ _ _ _ kW H locs ls cells slots hR hL hS h1 h2 => ?_⟩
        refine va_aldq C.1 C.2.1 C.2.2.2.2.2.2.2.2.1 hR.2.1 o 3 (hR.at ho) rfl (xI_in hq2 hq3) hd ?_
        rw [xI_nat hq2 hq3]
        have e1 : va_rf ((f i.toNat).map (G.N + ·)) = xc G (.inr (.inr (.inl (f i.toNat)))) := by cases f i.toNat <;> rfl
        rw [e1]
        exact kW H locs ls cells slots hR hL hS h1 h2
      · cases hF
    · cases hF
  · rename_i i j S0
    split at hF
    · rename_i hq
      rcases hq.1 with h | h
      · exact absurd h.1 (by decide)
      · exact absurd h.1 (by decide)
    · cases hF
  · cases hF
end
end
section
/-! SOUNDNESS: stores into arrays, lengths, new cells -/
/-- a new cell's address, and the heap behind it -/
theorem xRel_new {G : xG} {h : xH} {H H1 : Heap} {q : Nat} {c : xC} {en : va_E} {sz n0 cells : Nat} {s : State} (hR : xRel G h H) (hP : va_P G.D x_cls (xws G h ++ [(q, en)]) H1) (hD : va_D (xA G) (xws G h ++ [(q, en)])) (hz : H1.size ≤ s.heap.size + (cells + 1)) (hs : s.heap.size = G.N + n0) (h1 : cells + n0 = h.2.1) (he : en = xce G c) : q = G.N + h.2.1 ∧ xRel G (xnew h c sz) H1 := by
  have hl : (xws G h ++ [(q, en)])[h.2.1]? = some (q, en) := by
    rw [List.getElem?_append_right (by rw [xws_len]; exact Nat.le_refl _), xws_len]
    simp
  have hq1 : q < H1.size := (hP _ _ hl).lt
  have hq2 : G.N ≤ q := hD.2 _ _ hl
  have hq3 : ¬ q < G.N + h.2.1 := by
    intro hlt
    have hk : q - G.N < h.2.1 := by omega
    obtain ⟨c0, hc0⟩ := Option.isSome_iff_exists.mp ((hR.1 _).mpr hk)
    have h2 : (xws G h ++ [(q, en)])[q - G.N]? = some (G.N + (q - G.N), xce G c0) := by
      rw [List.getElem?_append_left (by rw [xws_len]; exact hk)]
      exact xws_get hk hc0
    have h3 := hD.1 _ _ _ _ h2 hl (by simp; omega)
    omega
  have hq : q = G.N + h.2.1 := by omega
  refine ⟨hq, xnew_some hR.1, ?_, ?_⟩
  · rw [hq, he] at hP
    rw [← xws_new]
    exact hP
  · have : (xnew h c sz).2.1 = h.2.1 + 1 := rfl
    rw [this]
    omega
theorem xupd (f : Nat → Int) (k : Nat) (x : Int) : (fun j => Int32.ofInt (xup f k x j)) = upd (fun j => Int32.ofInt (f j)) k (Int32.ofInt x) := by
  funext j
  by_cases hj : j = k <;> simp [xup, upd, hj]
theorem xupdL (f : Nat → Int) (k : Nat) (x : Int) : (fun j => Int64.ofInt (xup f k x j)) = vp_updL (fun j => Int64.ofInt (f j)) k (Int64.ofInt x) := by
  funext j
  by_cases hj : j = k <;> simp [xup, vp_updL, hj]
theorem xupdR (N : Nat) (f : Nat → Option Nat) (k : Nat) (x : Nat) : (fun j => (xup f k (some x) j).map (N + ·)) = va_up (fun j => (f j).map (N + ·)) k (some (N + x)) := by
  funext j
  by_cases hj : j = k <;> simp [xup, va_up, hj]
section
variable {mi pc : Nat}
theorem x_ast_nr {ka : Nat} : ∀ (X : xX) L S h q, x_ast ka pc L S h ≠ some (.inr q) := by
  intro X L S h q e
  unfold x_ast at e
  repeat' split at e
  all_goals first | exact xon_nr e | cases e
theorem snd_iast (hd : decode (x_cc mi) pc = .ok (.iastore, 1)) : xSnd mi pc (fun _ => x_ast 0) := by
  refine xSnd.on x_ast_nr ?_
  intro G p l e R s m args below meth c Q n0 z0 C L S h pc' L' S' h' hF
  unfold x_ast at hF
  dsimp only at hF
  split at hF
  · rename_i x i o S0
    split at hF
    · rename_i k n f ho
      split at hF
      · rename_i hq
        obtain ⟨rfl, -, hq2, hq3⟩ := hq
        obtain ⟨rfl, rfl, rfl, rfl⟩ := xon_inj hF
        refine ⟨Nat.le_refl _, Nat.le_refl _, fun _ _ _ _ kW H locs ls cells slots hR hL hS h1 h2 => ?_⟩
        refine va_iast C.1 C.2.1 C.2.2.2.2.2.2.2.2.1 hR.2.1 (xws_D G h) hS o 0 (hR.at ho) rfl (xI_in hq2 hq3) hd (fun H1 locs1 hP1 _ hS1 => ?_)
        rw [xI_nat hq2 hq3] at hP1
        refine W.sized (fun hz => ?_)
        refine kW H1 locs1 ls cells slots (xRel_set hR ho ?_ hz C.2.2.2.2.2.2.2.2.2.2 h1 hS1.1) hL hS1 h1 h2
        show va_P G.D x_cls ((xws G h).set o (G.N + o, .inl (G.ca 0, n, .inl (fun j => Int32.ofInt (xup f i.toNat x j))))) H1
        rw [xupd]
        exact hP1
      · cases hF
    · cases hF
  · split at hF
    · split at hF
      · rename_i hq; exact absurd hq.2.1 (by decide)
      · cases hF
    · cases hF
  · split at hF
    · split at hF
      · rename_i hq; exact absurd hq.1 (by decide)
      · cases hF
    · cases hF
  · cases hF
theorem snd_bast (hd : decode (x_cc mi) pc = .ok (.bastore, 1)) : xSnd mi pc (fun _ => x_ast 1) := by
  refine xSnd.on x_ast_nr ?_
  intro G p l e R s m args below meth c Q n0 z0 C L S h pc' L' S' h' hF
  unfold x_ast at hF
  dsimp only at hF
  split at hF
  · rename_i x i o S0
    split at hF
    · rename_i k n f ho
      split at hF
      · rename_i hq
        obtain ⟨rfl, hq1, hq2, hq3⟩ := hq
        have hx : x = 0 ∨ x = 1 := by
          rcases hq1 with h | h
          · exact absurd h (by decide)
          · exact h.2
        obtain ⟨rfl, rfl, rfl, rfl⟩ := xon_inj hF
        refine ⟨Nat.le_refl _, Nat.le_refl _, fun _ _ _ _ kW H locs ls cells slots hR hL hS h1 h2 => ?_⟩
        refine va_zast C.1 C.2.1 C.2.2.2.2.2.2.2.2.1 hR.2.1 (xws_D G h) hS o 1 (hR.at ho) rfl (xI_in hq2 hq3) hd (fun H1 locs1 hP1 _ hS1 => ?_)
        rw [xI_nat hq2 hq3] at hP1
        have e1 : vp_nar .boolean (Int32.ofInt x) = Int32.ofInt x := by rcases hx with rfl | rfl <;> rfl
        rw [e1] at hP1
        refine W.sized (fun hz => ?_)
        refine kW H1 locs1 ls cells slots (xRel_set hR ho ?_ hz C.2.2.2.2.2.2.2.2.2.2 h1 hS1.1) hL hS1 h1 h2
        show va_P G.D x_cls ((xws G h).set o (G.N + o, .inl (G.ca 1, n, .inl (fun j => Int32.ofInt (xup f i.toNat x j))))) H1
        rw [xupd]
        exact hP1
      · cases hF
    · cases hF
  · split at hF
    · split at hF
      · rename_i hq; exact absurd hq.2.1 (by decide)
      · cases hF
    · cases hF
  · split at hF
    · split at hF
      · rename_i hq; exact absurd hq.1 (by decide)
      · cases hF
    · cases hF
  · cases hF
theorem snd_last (hd : decode (x_cc mi) pc = .ok (.lastore, 1)) : xSnd mi pc (fun _ => x_ast 2) := by
  refine xSnd.on x_ast_nr ?_
  intro G p l e R s m args below meth c Q n0 z0 C L S h pc' L' S' h' hF
  unfold x_ast at hF
  dsimp only at hF
  split at hF
  · split at hF
    · split at hF
      · rename_i hq
        rcases hq.2.1 with h | h
        · exact absurd h (by decide)
        · exact absurd h.1 (by decide)
      · cases hF
    · cases hF
  · rename_i x i o S0
    split at hF
    · rename_i k n f ho
      split at hF
      · rename_i hq
        obtain ⟨rfl, -, hq2, hq3⟩ := hq
        obtain ⟨rfl, rfl, rfl, rfl⟩ := xon_inj hF
        refine ⟨Nat.le_refl _, Nat.le_refl _, fun _ _ _ _ kW H locs ls cells slots hR hL hS h1 h2 => ?_⟩
        refine va_last C.1 C.2.1 C.2.2.2.2.2.2.2.2.1 hR.2.1 (xws_D G h) hS o 2 (hR.at ho) rfl (xI_in hq2 hq3) hd (fun H1 locs1 hP1 _ hS1 => ?_)
        rw [xI_nat hq2 hq3] at hP1
        refine W.sized (fun hz => ?_)
        refine kW H1 locs1 ls cells slots (xRel_set hR ho ?_ hz C.2.2.2.2.2.2.2.2.2.2 h1 hS1.1) hL hS1 h1 h2
        show va_P G.D x_cls ((xws G h).set o (G.N + o, .inl (G.ca 2, n, .inr (.inl (fun j => Int64.ofInt (xup f i.toNat x j)))))) H1
        rw [xupdL]
        exact hP1
      · cases hF
    · cases hF
  · split at hF
    · split at hF
      · rename_i hq; exact absurd hq.1 (by decide)
      · cases hF
    · cases hF
  · cases hF
theorem snd_aast (hd : decode (x_cc mi) pc = .ok (.aastore, 1)) : xSnd mi pc (fun _ => x_ast 4) := by
  refine xSnd.on x_ast_nr ?_
  intro G p l e R s m args below meth c Q n0 z0 C L S h pc' L' S' h' hF
  unfold x_ast at hF
  dsimp only at hF
  split at hF
  · split at hF
    · split at hF
      · rename_i hq
        rcases hq.2.1 with h | h
        · exact absurd h (by decide)
        · exact absurd h.1 (by decide)
      · cases hF
    · cases hF
  · split at hF
    · split at hF
      · rename_i hq; exact absurd hq.2.1 (by decide)
      · cases hF
    · cases hF
  · rename_i v i o S0
    split at hF
    · rename_i n f cj vs ho hv
      split at hF
      · rename_i hq
        obtain ⟨-, rfl, hq2, hq3⟩ := hq
        obtain ⟨rfl, rfl, rfl, rfl⟩ := xon_inj hF
        refine ⟨Nat.le_refl _, Nat.le_refl _, fun _ _ _ _ kW H locs ls cells slots hR hL hS h1 h2 => ?_⟩
        refine va_astq C.1 C.2.1 C.2.2.2.2.2.2.2.2.1 hR.2.1 (xws_D G h) hS o 3 v 8 (r := (R_State, F_State, 15)) (hR.at ho) rfl (hR.at hv) rfl (xI_in hq2 hq3) hd (fun H1 locs1 hP1 _ hS1 => ?_)
        rw [xI_nat hq2 hq3] at hP1
        refine W.sized (fun hz => ?_)
        refine kW H1 locs1 ls cells slots (xRel_set hR ho ?_ hz C.2.2.2.2.2.2.2.2.2.2 h1 hS1.1) hL hS1 h1 h2
        show va_P G.D x_cls ((xws G h).set o (G.N + o, .inl (G.ca 4, n, .inr (.inr (.inr (.inr (fun j => (xup f i.toNat (some v) j).map (G.N + ·)))))))) H1
        rw [xupdR]
        exact hP1
      · cases hF
    · cases hF
  · cases hF
theorem x_alen_nr : ∀ (X : xX) L S h q, x_alen X pc L S h ≠ some (.inr q) := by
  intro X L S h q e
  unfold x_alen at e
  repeat' split at e
  all_goals first | exact xon_nr e | cases e
theorem snd_alen (hd : decode (x_cc mi) pc = .ok (.arraylength, 1)) : xSnd mi pc (fun X => x_alen X) := by
  refine xSnd.on x_alen_nr (xSA.same ?_)
  intro G p l e R s m args below meth c Q n0 C L S h pc' L' S' h' hF
  unfold x_alen at hF
  split at hF
  · rename_i o S0
    split at hF
    · rename_i k n f ho
      split at hF
      · rename_i hk3
        obtain ⟨rfl, rfl, rfl, rfl⟩ := xon_inj hF
        refine ⟨rfl, fun _ _ H locs ls cells slots hR hL hS k0 => ?_⟩
        have hk := k0 ls hL
        have ho2 := hR.at ho
        match k, hk3, ho2 with
        | 0, _, ho2 => exact va_alen C.1 C.2.1 C.2.2.2.2.2.2.2.2.1 hR.2.1 o 0 ho2 rfl (Int32.ofInt_eq_ofNat).symm hd hk
        | 1, _, ho2 => exact va_alen C.1 C.2.1 C.2.2.2.2.2.2.2.2.1 hR.2.1 o 1 ho2 rfl (Int32.ofInt_eq_ofNat).symm hd hk
        | 2, _, ho2 => exact va_alen C.1 C.2.1 C.2.2.2.2.2.2.2.2.1 hR.2.1 o 2 ho2 rfl (Int32.ofInt_eq_ofNat).symm hd hk
      · cases hF
    · cases hF
  · rename_i j S0
    split at hF
    · rename_i hq
      obtain ⟨rfl, rfl, rfl, rfl⟩ := xon_inj hF
      refine ⟨rfl, fun _ _ H locs ls cells slots hR hL hS k0 => ?_⟩
      have hk := k0 ls hL
      rcases hq with hq | hq
      · obtain ⟨a, ha, hT⟩ := C.2.2.2.2.2.2.2.2.2.1.1 j hq
        show W p l e R s m args below meth c H locs cells slots Q (F0 m pc ls (va_rf (G.ea j) :: List.map (xc G) S0))
        rw [ha]
        exact va_tlen C.1 C.2.1 hT hS (Int32.ofInt_eq_ofNat).symm hd hk
      · obtain ⟨a, ha, hT⟩ := C.2.2.2.2.2.2.2.2.2.1.2.1 j hq
        show W p l e R s m args below meth c H locs cells slots Q (F0 m pc ls (va_rf (G.ea j) :: List.map (xc G) S0))
        rw [ha]
        exact va_tlen C.1 C.2.1 hT hS (Int32.ofInt_eq_ofNat).symm hd hk
    · cases hF
  · cases hF
end
end
section
/-! SOUNDNESS: new cells, switches, copies -/
theorem xI_neg {n : Int} (h : 0 ≤ n) (h2 : n ≤ 1000000) : ¬ Int32.ofInt n < 0 := by
  rw [xI_0, xI_lt (by omega) xr0]
  omega
theorem xI_cl {n : Int} (h : 0 ≤ n) (h2 : n ≤ 1000000) : (Int32.ofInt n).toNatClampNeg = n.toNat := Int32.toNatClampNeg_ofInt_of_le (by omega) (by omega)
section
variable {mi pc : Nat}
theorem x_newa_nr {ka : Nat} : ∀ (X : xX) L S h q, x_newa ka pc L S h ≠ some (.inr q) := by
  intro X L S h q e
  unfold x_newa at e
  repeat' split at e
  all_goals first | exact xon_nr e | cases e
theorem snd_newa {ka t0 : Nat} {at_ : ArrayType} {ty : FieldType} {z : Nat → vp_A} (hd : decode (x_cc mi) pc = .ok (.newarray at_, 2)) (hty : Op.newarray.typeOf at_ = ty) (hw : Cond.arrayClass ty ∈ x_tbl) (ht : ∀ G : xG, (xtys G)[t0]? = some (G.ca ka, ty)) (hp : ∀ (U : State) (cA : ClassId), va_RA U cA ty = (U.vm.findClass ("[" ++ ty.toString) = some cA)) (ha : ∀ (cA : ClassId) (n : Nat), vp_cell cA (z n) = arrV cA n (fun _ => defaultValue ty)) (hz : ∀ n, (z n).1 = n) (hce : ∀ (G : xG) (n : Nat), xce G (c_A ka n (fun _ => 0)) = .inl (G.ca ka, z n)) (hcb : componentBytes ty ≤ 8) : xSnd mi pc (fun _ => x_newa ka) := by
  refine xSnd.on x_newa_nr ?_
  intro G p l e R s m args below meth c Q n0 z0 C L S h pc' L' S' h' hF
  unfold x_newa at hF
  dsimp only at hF
  split at hF
  · rename_i n S0
    split at hF
    · rename_i hq
      obtain ⟨rfl, rfl, rfl, rfl⟩ := xon_inj hF
      refine ⟨by show h.2.1 ≤ h.2.1 + 1; omega, by show h.2.2 ≤ h.2.2 + n.toNat; omega, fun r1 r2 _ _ kW H locs ls cells slots hR hL hS h1 h2 => ?_⟩
      have r1 : h.2.1 + 1 ≤ R.cells + n0 := r1
      have r2 : h.2.2 + n.toNat ≤ R.slots + z0 := r2
      have hK := C.2.2.2.2.2.2.2.2.1
      refine va_newa (a0 := z n.toNat) C.1 C.2.1 (by rw [hty]; exact C.2.2.2.2.2.1 _ hw) hty hK hR.2.1 (xws_D G h) hS (fun q hq => by have := C.2.2.2.2.2.2.2.2.2.2; show G.N ≤ q; omega) (fun cA => ha cA _) (xI_neg hq.1 hq.2) (xI_cl hq.1 hq.2) (Nat.le_trans (Nat.mul_le_mul (show n.toNat ≤ 1000000 by omega) hcb) (by decide)) (by omega) (by omega) hd (fun q cA H1 hK1 hP1 hD1 hS1 => ?_)
      have hcA : cA = G.ca ka := by
        have e1 := (hK.2 t0 _ (ht G)).2
        have e2 := (hK1.2 (xtys G).length (cA, ty) (by simp)).2
        rw [hp] at e1 e2
        exact Option.some.inj (e2.symm.trans e1)
      subst hcA
      refine W.sized (fun hz1 => ?_)
      obtain ⟨hqe, hR1⟩ := xRel_new (c := c_A ka n.toNat (fun _ => 0)) (sz := n.toNat) hR hP1 hD1 hz1 C.2.2.2.2.2.2.2.2.2.2 h1 (hce G n.toNat).symm
      rw [hqe]
      exact kW H1 locs ls (cells + 1) (slots + n.toNat) hR1 hL hS1 (by show cells + 1 + n0 = h.2.1 + 1; omega) (by show slots + n.toNat + z0 = h.2.2 + n.toNat; omega)
    · cases hF
  · cases hF
theorem snd_newa_i (hd : decode (x_cc mi) pc = .ok (.newarray .int, 2)) (hw : Cond.arrayClass .int ∈ x_tbl) : xSnd mi pc (fun _ => x_newa 0) :=
  snd_newa (t0 := 0) (z := fun n => (n, .inl (fun _ => 0))) hd rfl hw (fun G => rfl) (fun U cA => rfl) (fun cA n => rfl) (fun n => rfl) (fun G n => rfl) (by decide)
theorem snd_newa_z (hd : decode (x_cc mi) pc = .ok (.newarray .boolean, 2)) (hw : Cond.arrayClass .boolean ∈ x_tbl) : xSnd mi pc (fun _ => x_newa 1) :=
  snd_newa (t0 := 1) (z := fun n => (n, .inl (fun _ => 0))) hd rfl hw (fun G => rfl) (fun U cA => rfl) (fun cA n => rfl) (fun n => rfl) (fun G n => rfl) (by decide)
theorem snd_newa_l (hd : decode (x_cc mi) pc = .ok (.newarray .long, 2)) (hw : Cond.arrayClass .long ∈ x_tbl) : xSnd mi pc (fun _ => x_newa 2) :=
  snd_newa (t0 := 2) (z := fun n => (n, .inr (.inl (fun _ => 0)))) hd rfl hw (fun G => rfl) (fun U cA => rfl) (fun cA n => rfl) (fun n => rfl) (fun G n => rfl) (by decide)
theorem x_anew_nr : ∀ (X : xX) L S h q, x_anew pc L S h ≠ some (.inr q) := by
  intro X L S h q e
  unfold x_anew at e
  repeat' split at e
  all_goals first | exact xon_nr e | cases e
theorem snd_anew {ix : Nat} (hd : decode (x_cc mi) pc = .ok (.anewarray ix, 3)) (hw : Cond.classLink (x_on (x_ow mi)) ix "FilmPrinter$State" ∈ x_tbl) : xSnd mi pc (fun _ => x_anew) := by
  refine xSnd.on x_anew_nr ?_
  intro G p l e R s m args below meth c Q n0 z0 C L S h pc' L' S' h' hF
  unfold x_anew at hF
  dsimp only at hF
  split at hF
  · rename_i n S0
    split at hF
    · rename_i hq
      obtain ⟨rfl, rfl, rfl, rfl⟩ := xon_inj hF
      refine ⟨by show h.2.1 ≤ h.2.1 + 1; omega, by show h.2.2 ≤ h.2.2 + n.toNat; omega, fun r1 r2 _ _ kW H locs ls cells slots hR hL hS h1 h2 => ?_⟩
      have r1 : h.2.1 + 1 ≤ R.cells + n0 := r1
      have r2 : h.2.2 + n.toNat ≤ R.slots + z0 := r2
      have hK := C.2.2.2.2.2.2.2.2.1
      refine va_newq C.1 C.2.1 C.2.2.2.2.1 (C.2.2.2.2.2.1 _ hw) C.2.2.2.2.2.2.2.2.2.1.2.2.2.2.2.2.2.2.2 hK hR.2.1 (xws_D G h) hS (fun q hq => by have := C.2.2.2.2.2.2.2.2.2.2; show G.N ≤ q; omega) (xI_neg hq.1 hq.2) (xI_cl hq.1 hq.2) (by omega) (by omega) (by omega) hd (fun q cA H1 hK1 hP1 hD1 hS1 => ?_)
      have hcA : cA = G.ca 4 := by
        obtain ⟨_, _, _, _, _, e1⟩ := (hK.2 3 _ (show (xtys G)[3]? = some (G.ca 4, .object "FilmPrinter$State") from rfl)).2
        obtain ⟨_, _, _, _, _, e2⟩ := (hK1.2 (xtys G).length (cA, .object "FilmPrinter$State") (by simp)).2
        exact Option.some.inj (e2.symm.trans e1)
      subst hcA
      refine W.sized (fun hz1 => ?_)
      obtain ⟨hqe, hR1⟩ := xRel_new (c := c_R n.toNat (fun _ => none)) (sz := n.toNat) hR hP1 hD1 hz1 C.2.2.2.2.2.2.2.2.2.2 h1 rfl
      rw [hqe]
      exact kW H1 locs ls (cells + 1) (slots + n.toNat) hR1 hL hS1 (by show cells + 1 + n0 = h.2.1 + 1; omega) (by show slots + n.toNat + z0 = h.2.2 + n.toNat; omega)
    · cases hF
  · cases hF
/-- a field's first value -/
def xdf (t : FieldType) : xV := match t with
  | .long => vL 0
  | .object _ => vN
  | .array _ => vN
  | _ => vI 0
def xdfok (t : FieldType) : Bool := match t with
  | .float => false
  | .double => false
  | _ => true
theorem xdf_ok {G : xG} {t : FieldType} (h : xdfok t = true) : defaultValue t = xc G (xdf t) := by
  cases t <;> first | rfl | cases h
theorem snd_new {ci ix : Nat} {q : vw_C} {fs : List xV} {ty : Nat → FieldType} (hd : decode (x_cc mi) pc = .ok (.new ix, 3)) (hc : x_cls[ci]? = some q) (hty : ∀ k, k < q.2.2 → parseFieldDescriptor (q.2.1 k).2.2.1 = some (ty k)) (hl : fs.length = q.2.2) (hfs : ∀ k, k < q.2.2 → xdfok (ty k) = true ∧ fs[k]? = some (xdf (ty k)))
    (hw1 : Cond.classLink (x_on (x_ow mi)) ix q.1 ∈ x_tbl) (hw2 : Cond.instantiable q.1 q.2.2 ∈ x_tbl) (hw3 : Cond.initialized q.1 ∈ x_tbl) : xSnd mi pc (fun _ => x_new ci fs) := by
  refine xSnd.on (fun X L S h q => xon_nr) ?_
  intro G p l e R s m args below meth c Q n0 z0 C L S h pc' L' S' h' hF
  obtain ⟨rfl, rfl, rfl, rfl⟩ := xon_inj hF
  refine ⟨by show h.2.1 ≤ h.2.1 + 1; omega, by show h.2.2 ≤ h.2.2 + fs.length; omega, fun r1 r2 _ _ kW H locs ls cells slots hR hL hS h1 h2 => ?_⟩
  have r1 : h.2.1 + 1 ≤ R.cells + n0 := r1
  have r2 : h.2.2 + fs.length ≤ R.slots + z0 := r2
  have hK := C.2.2.2.2.2.2.2.2.1
  refine va_new (fs := fs.map (xc G)) C.1 C.2.1 C.2.2.2.2.2.1 (x_cls_ok _ _ hc).1 ty hty C.2.2.2.2.1 (C.2.2.2.2.2.1 _ hw1) (C.2.2.2.2.2.1 _ hw2) (C.2.2.2.2.2.1 _ hw3) hK hR.2.1 (xws_D G h) hS (fun q hq => by have := C.2.2.2.2.2.2.2.2.2.2; show G.N ≤ q; omega) hc (fun j hj => ?_) (by omega) (by omega) hd (fun q1 H1 hP1 hD1 hS1 => ?_)
  · obtain ⟨f1, f2⟩ := hfs j hj
    rw [xdf_ok (G := G) f1]
    simp [vp_V, f2]
  · refine W.sized (fun hz1 => ?_)
    obtain ⟨hqe, hR1⟩ := xRel_new (c := c_O ci fs) (sz := fs.length) hR hP1 hD1 hz1 C.2.2.2.2.2.2.2.2.2.2 h1 rfl
    rw [hqe]
    exact kW H1 locs ls (cells + 1) (slots + q.2.2) hR1 hL hS1 (by show cells + 1 + n0 = h.2.1 + 1; omega) (by show slots + q.2.2 + z0 = h.2.2 + fs.length; omega)
theorem x_sw_nr {lo : Int} {ts : List Nat} {df : Nat} : ∀ (X : xX) L S h q, x_sw lo ts df pc L S h ≠ some (.inr q) := by
  intro X L S h q e
  unfold x_sw at e
  repeat' split at e
  all_goals first | exact xon_nr e | cases e
theorem snd_sw {lo hi : Int} {ts : List Nat} {df len : Nat} (hd : decode (x_cc mi) pc = .ok (.tableswitch ((df : Int) - (pc : Int)) lo hi (ts.map (fun t : Nat => (t : Int) - (pc : Int))).toArray, len)) (hh : hi = lo + ts.length - 1) : xSnd mi pc (fun _ => x_sw lo ts df) := by
  refine xSnd.on x_sw_nr (xSA.same ?_)
  intro G p l e R s m args below meth c Q n0 C L S h pc' L' S' h' hF
  unfold x_sw at hF
  split at hF
  · rename_i x S0
    split at hF
    · rename_i hx
      have ex : (Int32.ofInt x).toInt = x := Int32.toInt_ofInt_of_le (by omega) (by omega)
      split at hF
      · rename_i hq
        obtain ⟨rfl, rfl, rfl, rfl⟩ := xon_inj hF
        exact ⟨rfl, fun _ _ H locs ls cells slots hR hL hS k => lv_tableOut C.1 C.2.1 hd (by rw [ex, hh]; omega) (by omega) (k ls hL)⟩
      · rename_i hq
        obtain ⟨rfl, rfl, rfl, rfl⟩ := xon_inj hF
        have hlt : (x - lo).toNat < ts.length := by omega
        refine ⟨rfl, fun _ _ H locs ls cells slots hR hL hS k => lv_tableIn (off := ((ts.getD (x - lo).toNat df : Nat) : Int) - (pc : Int)) C.1 C.2.1 hd (by rw [ex]; omega) (by rw [ex, hh]; omega) ?_ (by omega) (k ls hL)⟩
        rw [ex]
        simp [hlt, List.getD]
    · cases hF
  · cases hF
theorem xlook_off (ps : List (Int × Nat)) (df : Nat) (x : Int) (pc : Nat) : Op.lookupswitch.offset (ps.map (fun q => (q.1, (q.2 : Int) - (pc : Int)))) ((df : Int) - (pc : Int)) x = ((xlook ps df x : Nat) : Int) - (pc : Int) := by
  induction ps with
  | nil => rfl
  | cons q ps ih =>
    simp only [List.map_cons, xlook]
    unfold Op.lookupswitch.offset
    by_cases h : x = q.1
    · simp [h]
    · simp only [if_neg h]
      first
        | (rw [if_neg (by simpa using h)]; exact ih)
        | (rw [if_neg (by simpa using (fun z => h z.symm))]; exact ih)
        | (simp [h]; exact ih)
theorem x_lsw_nr {ps : List (Int × Nat)} {df : Nat} : ∀ (X : xX) L S h q, x_lsw ps df pc L S h ≠ some (.inr q) := by
  intro X L S h q e
  unfold x_lsw at e
  repeat' split at e
  all_goals first | exact xon_nr e | cases e
theorem snd_lsw {ps : List (Int × Nat)} {df len : Nat} (hd : decode (x_cc mi) pc = .ok (.lookupswitch ((df : Int) - (pc : Int)) (ps.map (fun q => (q.1, (q.2 : Int) - (pc : Int)))).toArray, len)) (hp : (((ps.map (fun q => (q.1, (q.2 : Int) - (pc : Int)))).zip ((ps.map (fun q => (q.1, (q.2 : Int) - (pc : Int)))).drop 1)).all (fun (a, next) => a.1 < next.1)) = true) : xSnd mi pc (fun _ => x_lsw ps df) := by
  refine xSnd.on x_lsw_nr (xSA.same ?_)
  intro G p l e R s m args below meth c Q n0 C L S h pc' L' S' h' hF
  unfold x_lsw at hF
  split at hF
  · rename_i x S0
    split at hF
    · rename_i hx
      have ex : (Int32.ofInt x).toInt = x := Int32.toInt_ofInt_of_le (by omega) (by omega)
      obtain ⟨rfl, rfl, rfl, rfl⟩ := xon_inj hF
      exact ⟨rfl, fun _ _ H locs ls cells slots hR hL hS k => lv_lookup (off := ((xlook ps df x : Nat) : Int) - (pc : Int)) C.1 C.2.1 hd hp (by rw [ex]; exact xlook_off ps df x pc) (by omega) (k ls hL)⟩
    · cases hF
  · cases hF
end
end
section
/-! SOUNDNESS: copies, texts, statics, the library's own -/
theorem xcpyE (f g : Nat → Int) (sp dp n : Nat) : (fun j => Int32.ofInt (xcpy f g sp dp n j)) = va_cpy (fun j => Int32.ofInt (f j)) (fun j => Int32.ofInt (g j)) sp dp n := by
  funext j
  by_cases hj : dp ≤ j ∧ j < dp + n <;> simp [xcpy, va_cpy, hj]
theorem xI_cl2 {n : Int} (h : 0 ≤ n) (h2 : n < 2147483648) : (Int32.ofInt n).toNatClampNeg = n.toNat := Int32.toNatClampNeg_ofInt_of_le (by omega) (by omega)
theorem xI_neg2 {n : Int} (h : 0 ≤ n) (h2 : n < 2147483648) : ¬ Int32.ofInt n < 0 := by
  rw [xI_0, xI_lt (by omega) xr0]
  omega
section
variable {mi pc : Nat}
theorem x_copy_nr : ∀ (X : xX) L S h q, x_copy pc L S h ≠ some (.inr q) := by
  intro X L S h q e
  unfold x_copy at e
  repeat' split at e
  all_goals first | exact xon_nr e | cases e
theorem snd_copy {ix : Nat} (hd : decode (x_cc mi) pc = .ok (.invokestatic ix, 3)) (hw1 : Cond.methodLink (x_on (x_ow mi)) ix arraycopyName ∈ x_tbl) (hw2 : Cond.native arraycopyName ∈ x_tbl) (hw3 : Cond.static arraycopyName ∈ x_tbl) (hw4 : Cond.initialized "java/lang/System" ∈ x_tbl) : xSnd mi pc (fun _ => x_copy) := by
  refine xSnd.on x_copy_nr ?_
  intro G p l e R s m args below meth c Q n0 z0 C L S h pc' L' S' h' hF
  unfold x_copy at hF
  dsimp only at hF
  split at hF
  · rename_i n dp b sp a S0
    split at hF
    · rename_i na f nb g ha hb
      split at hF
      · rename_i hq
        obtain ⟨q1, q2, q3, q4, q5, q6, q7, q8⟩ := hq
        obtain ⟨rfl, rfl, rfl, rfl⟩ := xon_inj hF
        refine ⟨Nat.le_refl _, Nat.le_refl _, fun _ _ r1 r2 kW H locs ls cells slots hR hL hS h1 h2 => ?_⟩
        have e1 := xI_cl2 q1 (by omega)
        have e2 := xI_cl2 q2 (by omega)
        have e3 := xI_cl2 q3 (by omega)
        have hT := C.2.2.2.2.2.1
        refine va_copyi (ty := .int) C.1 C.2.1 (by rw [C.2.2.1, hL.1.1]) C.2.2.2.2.1 (hT _ hw1) (hT _ hw2) (hT _ hw3) (hT _ hw4) C.2.2.2.2.2.2.2.2.1 hR.2.1 (xws_D G h) hS a b 0 0 (hR.at ha) (hR.at hb) rfl rfl rfl (xI_neg2 q3 (by omega)) (xI_neg2 q2 (by omega)) (xI_neg2 q1 (by omega)) (by rw [e3, e1]; omega) (by rw [e2, e1]; omega) (fun i _ => rfl) r1 ?_ hd (fun H1 locs1 hP1 _ hS1 => ?_)
        · rw [xc_wd]
          have : nativeFrameWords "java/lang/System" "arraycopy" 5 + 11 ≤ 56 := by decide +kernel
          omega
        · rw [e1, e2, e3] at hP1
          refine W.sized (fun hz => ?_)
          refine kW H1 locs1 ls cells slots (xRel_set hR hb ?_ hz C.2.2.2.2.2.2.2.2.2.2 h1 hS1.1) hL hS1 h1 h2
          show va_P G.D x_cls ((xws G h).set b (G.N + b, .inl (G.ca 0, nb, .inl (fun j => Int32.ofInt (xcpy f g sp.toNat dp.toNat n.toNat j))))) H1
          rw [xcpyE]
          exact hP1
      · cases hF
    · cases hF
  · cases hF
theorem x_min_nr : ∀ (X : xX) L S h q, x_min pc L S h ≠ some (.inr q) := by
  intro X L S h q e
  unfold x_min at e
  repeat' split at e
  all_goals first | exact xon_nr e | cases e
theorem x_max_nr : ∀ (X : xX) L S h q, x_max pc L S h ≠ some (.inr q) := by
  intro X L S h q e
  unfold x_max at e
  repeat' split at e
  all_goals first | exact xon_nr e | cases e
theorem x_abs_nr : ∀ (X : xX) L S h q, x_abs pc L S h ≠ some (.inr q) := by
  intro X L S h q e
  unfold x_abs at e
  repeat' split at e
  all_goals first | exact xon_nr e | cases e
theorem snd_min {ix : Nat} (hd : decode (x_cc mi) pc = .ok (.invokestatic ix, 3)) (hw1 : Cond.methodLink (x_on (x_ow mi)) ix Lib.Math.min.name ∈ x_tbl) (hw2 : Cond.static Lib.Math.min.name ∈ x_tbl) (hw3 : Cond.initialized "java/lang/Math" ∈ x_tbl) (hw4 : Cond.code Lib.Math.min.name Lib.Math.min.code 2 (some .int) ∈ x_tbl) : xSnd mi pc (fun _ => x_min) := by
  refine xSnd.on x_min_nr ?_
  intro G p l e R s m args below meth c Q n0 z0 C L S h pc' L' S' h' hF
  unfold x_min at hF
  dsimp only at hF
  split at hF
  · split at hF
    · rename_i y x S0 hq
      obtain ⟨rfl, rfl, rfl, rfl⟩ := xon_inj hF
      refine ⟨Nat.le_refl _, Nat.le_refl _, fun c1 c2 r1 r2 kW H locs ls cells slots hR hL hS h1 h2 => ?_⟩
      have hT := C.2.2.2.2.2.1
      refine va_mmin C.1 C.2.1 (by rw [C.2.2.1, hL.1.1]) C.2.2.2.2.1 (hT _ hw1) (hT _ hw2) (hT _ hw3) (hT _ hw4) r1 (by rw [xc_wd]; omega) (by omega) (by omega) hd ?_
      have e1 : (if Int32.ofInt y < Int32.ofInt x then Int32.ofInt y else Int32.ofInt x) = Int32.ofInt (xmin x y) := by
        unfold xmin
        by_cases hc : x ≤ y
        · rw [if_pos hc, if_neg (fun z => by have := (xI_lt hq.2.1 hq.1).mp z; omega)]
        · rw [if_neg hc, if_pos ((xI_lt hq.2.1 hq.1).mpr (by omega))]
      rw [e1]
      exact kW H locs ls cells slots hR hL hS h1 h2
    · cases hF
  · cases hF
theorem snd_max {ix : Nat} (hd : decode (x_cc mi) pc = .ok (.invokestatic ix, 3)) (hw1 : Cond.methodLink (x_on (x_ow mi)) ix Lib.Math.max.name ∈ x_tbl) (hw2 : Cond.static Lib.Math.max.name ∈ x_tbl) (hw3 : Cond.initialized "java/lang/Math" ∈ x_tbl) (hw4 : Cond.code Lib.Math.max.name Lib.Math.max.code 2 (some .int) ∈ x_tbl) : xSnd mi pc (fun _ => x_max) := by
  refine xSnd.on x_max_nr ?_
  intro G p l e R s m args below meth c Q n0 z0 C L S h pc' L' S' h' hF
  unfold x_max at hF
  dsimp only at hF
  split at hF
  · split at hF
    · rename_i y x S0 hq
      obtain ⟨rfl, rfl, rfl, rfl⟩ := xon_inj hF
      refine ⟨Nat.le_refl _, Nat.le_refl _, fun c1 c2 r1 r2 kW H locs ls cells slots hR hL hS h1 h2 => ?_⟩
      have hT := C.2.2.2.2.2.1
      refine va_mmax C.1 C.2.1 (by rw [C.2.2.1, hL.1.1]) C.2.2.2.2.1 (hT _ hw1) (hT _ hw2) (hT _ hw3) (hT _ hw4) r1 (by rw [xc_wd]; omega) (by omega) (by omega) hd ?_
      have e1 : (if Int32.ofInt x < Int32.ofInt y then Int32.ofInt y else Int32.ofInt x) = Int32.ofInt (xmax x y) := by
        unfold xmax
        by_cases hc : y ≤ x
        · rw [if_pos hc, if_neg (fun z => by have := (xI_lt hq.1 hq.2.1).mp z; omega)]
        · rw [if_neg hc, if_pos ((xI_lt hq.1 hq.2.1).mpr (by omega))]
      rw [e1]
      exact kW H locs ls cells slots hR hL hS h1 h2
    · cases hF
  · cases hF
theorem snd_abs {ix : Nat} (hd : decode (x_cc mi) pc = .ok (.invokestatic ix, 3)) (hw1 : Cond.methodLink (x_on (x_ow mi)) ix Lib.Math.abs.name ∈ x_tbl) (hw2 : Cond.static Lib.Math.abs.name ∈ x_tbl) (hw3 : Cond.initialized "java/lang/Math" ∈ x_tbl) (hw4 : Cond.code Lib.Math.abs.name Lib.Math.abs.code 1 (some .int) ∈ x_tbl) : xSnd mi pc (fun _ => x_abs) := by
  refine xSnd.on x_abs_nr ?_
  intro G p l e R s m args below meth c Q n0 z0 C L S h pc' L' S' h' hF
  unfold x_abs at hF
  dsimp only at hF
  split at hF
  · split at hF
    · rename_i x S0 hq
      obtain ⟨rfl, rfl, rfl, rfl⟩ := xon_inj hF
      refine ⟨Nat.le_refl _, Nat.le_refl _, fun c1 c2 r1 r2 kW H locs ls cells slots hR hL hS h1 h2 => ?_⟩
      have hT := C.2.2.2.2.2.1
      refine va_mabs C.1 C.2.1 (by rw [C.2.2.1, hL.1.1]) C.2.2.2.2.1 (hT _ hw1) (hT _ hw2) (hT _ hw3) (hT _ hw4) r1 (by rw [xc_wd]; omega) (by omega) (by omega) hd ?_
      have e1 : (if 0 ≤ Int32.ofInt x then Int32.ofInt x else 0 - Int32.ofInt x) = Int32.ofInt (xabs x) := by
        unfold xabs
        by_cases hc : 0 ≤ x
        · rw [if_pos hc, if_pos (by rw [xI_0, xI_le xr0 hq.1]; exact hc)]
        · rw [if_neg hc, if_neg (fun z => hc (by rw [xI_0, xI_le xr0 hq.1] at z; exact z)), Int32.ofInt_neg]
          exact Int32.zero_sub _
      rw [e1]
      exact kW H locs ls cells slots hR hL hS h1 h2
    · cases hF
  · cases hF
theorem snd_ldcS {j : Nat} (hj : j < 14) (hd : decode (x_cc mi) pc = .ok (.ldc (x_sidx j), 2)) (ho : x_on (x_ow mi) = "FilmPrinter$Reader") : xSnd mi pc (fun _ => x_ref (vS j) 2) := by
  refine xSnd.on (fun X L S h q => xon_nr) (xSA.same ?_)
  intro G p l e R s m args below meth c Q n0 C L S h pc' L' S' h' hF
  obtain ⟨rfl, rfl, rfl, rfl⟩ := xon_inj hF
  refine ⟨rfl, fun _ _ H locs ls cells slots hR hL hS k => ?_⟩
  have hown := C.2.2.2.2.1
  rw [ho] at hown
  exact va_ldcS C.1 C.2.1 hown (C.2.2.2.2.2.2.2.2.2.1.2.2.2.2.2.2.2.1 j hj).2.2.2 hd (k ls hL)
theorem x_oin_nr : ∀ (X : xX) L S h q, x_oin pc L S h ≠ some (.inr q) := by
  intro X L S h q e
  unfold x_oin at e
  repeat' split at e
  all_goals first | exact xon_nr e | cases e
theorem snd_oin {ix : Nat} (hd : decode (x_cc mi) pc = .ok (.invokespecial ix, 3)) (hw1 : Cond.methodLink (x_on (x_ow mi)) ix Lib.objectInit ∈ x_tbl) (hw2 : Cond.instanceMethod Lib.objectInit ∈ x_tbl) (hw3 : Cond.code Lib.objectInit ⟨#[0xb1]⟩ 1 none ∈ x_tbl) : xSnd mi pc (fun _ => x_oin) := by
  refine xSnd.on x_oin_nr (xSA.same ?_)
  intro G p l e R s m args below meth c Q n0 C L S h pc' L' S' h' hF
  unfold x_oin at hF
  split at hF
  · split at hF
    · rename_i hq
      obtain ⟨rfl, rfl, rfl, rfl⟩ := xon_inj hF
      refine ⟨rfl, fun r1 r2 H locs ls cells slots hR hL hS k => ?_⟩
      have hT := C.2.2.2.2.2.1
      refine W.objInit C.1 C.2.1 C.2.2.2.2.1 (hT _ hw1) (hT _ hw2) (hT _ hw3) rfl (by show ls.size = _; rw [C.2.2.1, hL.1.1]) rfl hd r1 ?_ (k ls hL)
      rw [xc_wd]
      show 2 * 0 + _ + 12 ≤ _
      omega
    · cases hF
  · cases hF
theorem x_gets_nr {k : Nat} : ∀ (X : xX) L S h q, x_gets k pc L S h ≠ some (.inr q) := by
  intro X L S h q e
  unfold x_gets at e
  repeat' split at e
  all_goals first | exact xon_nr e | cases e
theorem snd_gets0 {ix : Nat} (hd : decode (x_cc mi) pc = .ok (.getfield ix, 3)) (hw : Cond.fieldLink (x_on (x_ow mi)) ix "java/lang/String" "value" "[B" ∈ x_tbl) : xSnd mi pc (fun _ => x_gets 0) := by
  refine xSnd.on x_gets_nr (xSA.same ?_)
  intro G p l e R s m args below meth c Q n0 C L S h pc' L' S' h' hF
  unfold x_gets at hF
  split at hF
  · rename_i j S0
    split at hF
    · rename_i hj
      obtain ⟨rfl, rfl, rfl, rfl⟩ := xon_inj hF
      exact ⟨rfl, fun _ _ H locs ls cells slots hR hL hS k => vk_getf C.1 C.2.1 (C.2.2.2.2.2.2.2.2.2.1.2.2.2.2.2.2.2.1 j hj).2.1 hS C.2.2.2.2.1 (C.2.2.2.2.2.1 _ hw) (fun x h => h) hd (k ls hL)⟩
    · cases hF
  · cases hF
theorem snd_gets1 {ix : Nat} (hd : decode (x_cc mi) pc = .ok (.getfield ix, 3)) (hw : Cond.fieldLink (x_on (x_ow mi)) ix "java/lang/String" "coder" "B" ∈ x_tbl) : xSnd mi pc (fun _ => x_gets 1) := by
  refine xSnd.on x_gets_nr (xSA.same ?_)
  intro G p l e R s m args below meth c Q n0 C L S h pc' L' S' h' hF
  unfold x_gets at hF
  split at hF
  · rename_i j S0
    split at hF
    · rename_i hj
      obtain ⟨rfl, rfl, rfl, rfl⟩ := xon_inj hF
      exact ⟨rfl, fun _ _ H locs ls cells slots hR hL hS k => vk_getf C.1 C.2.1 (C.2.2.2.2.2.2.2.2.2.1.2.2.2.2.2.2.2.1 j hj).2.2.1 hS C.2.2.2.2.1 (C.2.2.2.2.2.1 _ hw) (fun x h => h) hd (k ls hL)⟩
    · cases hF
  · cases hF
theorem snd_stat {v : xV} {Cn n d : String} {ix : Nat} (hd : decode (x_cc mi) pc = .ok (.getstatic ix, 3)) (hw : Cond.fieldLink (x_on (x_ow mi)) ix Cn n d ∈ x_tbl) (hz : ∀ (G : xG) (U : State) (H : Heap), xE G U H → va_Z Cn n d (xc G v) (xA G) U H) : xSnd mi pc (fun _ => x_ref v 3) := by
  refine xSnd.on (fun X L S h q => xon_nr) (xSA.same ?_)
  intro G p l e R s m args below meth c Q n0 C L S h pc' L' S' h' hF
  obtain ⟨rfl, rfl, rfl, rfl⟩ := xon_inj hF
  exact ⟨rfl, fun _ _ H locs ls cells slots hR hL hS k => va_gets C.1 C.2.1 (hz G s s.heap C.2.2.2.2.2.2.2.2.2.1) hS C.2.2.2.2.1 (C.2.2.2.2.2.1 _ hw) (fun x h => h) hd (k ls hL)⟩
theorem snd_stat0 {ix : Nat} (hd : decode (x_cc mi) pc = .ok (.getstatic ix, 3)) (hw : Cond.fieldLink (x_on (x_ow mi)) ix "FilmPrinter" "LOWEST_TERM" "[I" ∈ x_tbl) : xSnd mi pc (fun _ => x_ref (vE 1) 3) := snd_stat hd hw (fun G U H h => h.2.2.1)
theorem snd_stat1 {ix : Nat} (hd : decode (x_cc mi) pc = .ok (.getstatic ix, 3)) (hw : Cond.fieldLink (x_on (x_ow mi)) ix "FilmPrinter" "HIGHEST_TERM" "[I" ∈ x_tbl) : xSnd mi pc (fun _ => x_ref (vE 2) 3) := snd_stat hd hw (fun G U H h => h.2.2.2.1)
theorem snd_stat3 {ix : Nat} (hd : decode (x_cc mi) pc = .ok (.getstatic ix, 3)) (hw : Cond.fieldLink (x_on (x_ow mi)) ix "java/lang/String" "COMPACT_STRINGS" "Z" ∈ x_tbl) : xSnd mi pc (fun _ => x_ref (vI 1) 3) := snd_stat hd hw (fun G U H h => h.2.2.2.2.2.1)
theorem snd_stat4 {ix : Nat} (hd : decode (x_cc mi) pc = .ok (.getstatic ix, 3)) (hw : Cond.fieldLink (x_on (x_ow mi)) ix "jdk/internal/util/Preconditions" "SIOOBE_FORMATTER" "Ljava/util/function/BiFunction;" ∈ x_tbl) : xSnd mi pc (fun _ => x_ref (vE 4) 3) := snd_stat hd hw (fun G U H h => h.2.2.2.2.2.2.1)
theorem snd_stat2 (hd : decode (x_cc mi) pc = .ok (.getstatic 21, 3)) (ho : x_on (x_ow mi) = "FilmPrinter$State") : xSnd mi pc (fun _ => x_ref (vE 3) 3) := by
  refine xSnd.on (fun X L S h q => xon_nr) (xSA.same ?_)
  intro G p l e R s m args below meth c Q n0 C L S h pc' L' S' h' hF
  obtain ⟨rfl, rfl, rfl, rfl⟩ := xon_inj hF
  refine ⟨rfl, fun _ _ H locs ls cells slots hR hL hS k => ?_⟩
  have hown := C.2.2.2.2.1
  rw [ho] at hown
  have hE := C.2.2.2.2.2.2.2.2.2.1
  exact va_getsN C.1 C.2.1 hE.2.2.2.2.1 hS hown (va_Nw.use rfl hE.2.2.2.2.2.2.2.2.1.1) (fun x h => h) hd (k ls hL)
theorem x_cast_nr : ∀ (X : xX) L S h q, x_cast pc L S h ≠ some (.inr q) := by
  intro X L S h q e
  unfold x_cast at e
  repeat' split at e
  all_goals first | exact xon_nr e | cases e
theorem snd_cast {ix : Nat} (hd : decode (x_cc mi) pc = .ok (.checkcast ix, 3)) (hw : Cond.classLink (x_on (x_ow mi)) ix "[I" ∈ x_tbl) : xSnd mi pc (fun _ => x_cast) := by
  refine xSnd.on x_cast_nr (xSA.same ?_)
  intro G p l e R s m args below meth c Q n0 C L S h pc' L' S' h' hF
  unfold x_cast at hF
  split at hF
  · rename_i o S0
    split at hF
    · rename_i n f ho
      obtain ⟨rfl, rfl, rfl, rfl⟩ := xon_inj hF
      refine ⟨rfl, fun _ _ H locs ls cells slots hR hL hS k => ?_⟩
      have e1 := (C.2.2.2.2.2.2.2.2.1.2 0 _ (show (xtys G)[0]? = some (G.ca 0, .int) from rfl)).2
      exact va_castA C.1 C.2.1 C.2.2.2.2.1 (C.2.2.2.2.2.1 _ hw) hR.2.1 o (hR.at ho) e1 hd (k ls hL)
    · cases hF
  · cases hF
end
end
section
/-! SOUNDNESS: the clone of an outer array; calls; answers -/
theorem xRel_push {G : xG} {h : xH} {H : Heap} {c : xC} {cell : Cell} (sz : Nat) (hR : xRel G h H) (hc : va_at G.D x_cls (G.N + h.2.1, xce G c) (H.push cell)) : xRel G (xnew h c sz) (H.push cell) := by
  refine ⟨xnew_some hR.1, ?_, ?_⟩
  · rw [← xws_new]
    refine (hR.2.1.kept (fun k y hy => ?_)).app (fun k y hy => ?_)
    · have hl := (hR.2.1 k y hy).lt
      rw [Array.getElem?_push, if_neg (Nat.ne_of_lt hl)]
    · have hz : k < 1 := (List.getElem?_eq_some_iff.mp hy).1
      rw [show k = 0 by omega] at hy
      cases hy
      exact hc
  · have e : (xnew h c sz).2.1 = h.2.1 + 1 := rfl
    rw [e, Array.size_push, hR.2.2]
    omega
section
variable {mi pc : Nat}
theorem x_clone_nr : ∀ (X : xX) L S h q, x_clone X pc L S h ≠ some (.inr q) := by
  intro X L S h q e
  unfold x_clone at e
  repeat' split at e
  all_goals first | exact xon_nr e | cases e
theorem snd_clone {ix : Nat} (hd : decode (x_cc mi) pc = .ok (.invokevirtual ix, 3)) (hw1 : Cond.methodLink (x_on (x_ow mi)) ix ⟨"[I", "clone", "()Ljava/lang/Object;"⟩ ∈ x_tbl) (hw2 : Cond.sameMethod "[I" "java/lang/Object" "clone" "()Ljava/lang/Object;" ∈ x_tbl) (hw3 : Cond.native ⟨"java/lang/Object", "clone", "()Ljava/lang/Object;"⟩ ∈ x_tbl) (hw4 : Cond.instanceMethod ⟨"java/lang/Object", "clone", "()Ljava/lang/Object;"⟩ ∈ x_tbl)
    (hw5 : Cond.selects "[I" ⟨"[I", "clone", "()Ljava/lang/Object;"⟩ ⟨"java/lang/Object", "clone", "()Ljava/lang/Object;"⟩ ∈ x_tbl) : xSnd mi pc (fun X => x_clone X) := by
  refine xSnd.on x_clone_nr ?_
  intro G p l e R s m args below meth c Q n0 z0 C L S h pc' L' S' h' hF
  unfold x_clone at hF
  dsimp only at hF
  split at hF
  · rename_i j S0
    split at hF
    · rename_i hq
      obtain ⟨rfl, hq1, hq2⟩ := hq
      obtain ⟨rfl, rfl, rfl, rfl⟩ := xon_inj hF
      refine ⟨by show h.2.1 ≤ h.2.1 + 1; omega, by show h.2.2 ≤ h.2.2 + 7; omega, fun r1 r2 r3 r4 kW H locs ls cells slots hR hL hS h1 h2 => ?_⟩
      have r1 : h.2.1 + 1 ≤ R.cells + n0 := r1
      have r2 : h.2.2 + 7 ≤ R.slots + z0 := r2
      have hT0 := C.2.2.2.2.2.1
      have hE := C.2.2.2.2.2.2.2.2.2.1
      have hK := C.2.2.2.2.2.2.2.2.1
      obtain ⟨a, ha, -⟩ := hE.1 3 hq1
      obtain ⟨vmd, hcell, hv1, hv2, hnA⟩ := hE.2.2.2.2.2.2.2.2.1.2.2.2 a ha
      have hal : a < s.heap.size := (Array.getElem?_eq_some_iff.mp hcell).1
      show W p l e R s m args below meth c H locs cells slots Q (F0 m pc ls (va_rf (G.ea 3) :: List.map (xc G) S0))
      rw [ha]
      show W p l e R s m args below meth c H locs cells slots Q (F0 m pc ls (.ref a :: List.map (xc G) S0))
      have e1 : s.vm.findClass "[I" = some (G.ca 0) := (hK.2 0 _ (show (xtys G)[0]? = some (G.ca 0, .int) from rfl)).2
      obtain ⟨c0, t0', f1, f2, f3⟩ := Cond.castable_spec (va_Nw.use (A := args) rfl hE.2.2.2.2.2.2.2.2.1.2.2.1)
      cases e1.symm.trans f1
      intro T hT X
      have hcellT : T.heap[a]? = some { cls := G.ca 0, slots := (arrV (G.ca 0) 7 (fun i => .int (Int32.ofInt ((G.X 3).2.2 i)))).slots, vm := vmd } := by
        rw [hT, hS.2.1 a hal hnA]
        exact hcell
      obtain ⟨-, kA, hkA, comp, hkind⟩ := State.isArrayOf_alike X.warmed.alike ((hK.2 0 _ (show (xtys G)[0]? = some (G.ca 0, .int) from rfl)).1 0 (fun _ => .null))
      obtain ⟨-, kS, hkS, compS, hkindS⟩ := (hK.2 0 _ (show (xtys G)[0]? = some (G.ca 0, .int) from rfl)).1 0 (fun _ => .null)
      have hsz : (arrV (G.ca 0) 7 (fun i => .int (Int32.ofInt ((G.X 3).2.2 i)))).slots.size = 7 := arrV_size _ _ _
      obtain ⟨vm', X', st⟩ := X.cloneArray C.1 C.2.2.2.2.1 (hT0 _ hw1) (hT0 _ hw2) (hT0 _ hw3) (hT0 _ hw4) (hT0 _ hw5) (a := a) hcellT hv1 hv2 e1 f2 f3
        (fun i v hv => by
          have hk' : T.vm.classes[G.ca 0]? = some kA := hkA
          have hi : i < 7 := by
            have := (Array.getElem?_eq_some_iff.mp hv).1
            rw [hsz] at this
            exact this
          rw [arrV_read _ _ hi] at hv
          cases hv
          simp [State.fitsSlot, State.slotType?, hk', hkind, fits])
        (g := F0 m pc ls (.ref a :: List.map (xc G) S0)) rfl (by show ls.size = _; rw [C.2.2.1, hL.1.1]) rfl (by rw [C.2.1]; exact hd) r3 (by rw [xc_wd]; show 2 * 0 + _ + 14 ≤ _; omega) (by omega) (by show slots + (arrV (G.ca 0) 7 (fun i => .int (Int32.ofInt ((G.X 3).2.2 i)))).slots.size ≤ _; rw [hsz]; omega) (hloader := Vm.clonesLoader_of_array hkS hkindS)
      have hsz2 : slots + (arrV (G.ca 0) 7 (fun i => .int (Int32.ofInt ((G.X 3).2.2 i)))).slots.size = slots + 7 := by rw [hsz]
      have X' : Stand p l e R s m args below meth c ((T.setVm vm').pushCell (arrV (G.ca 0) 7 (fun i => .int (Int32.ofInt ((G.X 3).2.2 i))))) locs (cells + 1) (slots + 7) := by
        rw [← hsz2]
        exact X'
      have hR1 : xRel G (xnew h (c_A 0 7 (G.X 3).2.2) 7) (H.push (arrV (G.ca 0) 7 (fun i => .int (Int32.ofInt ((G.X 3).2.2 i))))) := by
        refine xRel_push 7 hR ?_
        show (H.push _)[G.N + h.2.1]? = some (vp_cell _ _)
        rw [← hR.2.2, Array.getElem?_push_size]
        rfl
      have hS1 : va_S (xA G) s.heap (H.push (arrV (G.ca 0) 7 (fun i => .int (Int32.ofInt ((G.X 3).2.2 i))))) locs := by
        refine ⟨Nat.le_trans hS.1 (by rw [Array.size_push]; omega), fun y y1 y2 => ?_, hS.2.2⟩
        rw [Array.getElem?_push, if_neg (Nat.ne_of_lt (Nat.lt_of_lt_of_le y1 hS.1))]
        exact hS.2.1 y y1 y2
      obtain ⟨t, b1, b2⟩ := kW _ locs ls (cells + 1) (slots + 7) hR1 hL hS1 (by show cells + 1 + n0 = h.2.1 + 1; omega) (by show slots + 7 + z0 = h.2.2 + 7; omega) ((T.setVm vm').pushCell (arrV (G.ca 0) 7 (fun i => .int (Int32.ofInt ((G.X 3).2.2 i))))) (by rw [← hT]; rfl) X'
      refine ⟨t, st t ?_, b2⟩
      have e2 : T.heap.size = G.N + h.2.1 := by rw [hT, hR.2.2]
      show Steps p.tables e below ((((T.setVm vm').pushCell (arrV (G.ca 0) 7 (fun i => .int (Int32.ofInt ((G.X 3).2.2 i)))))).setTop (F0 m (pc + 3) ls (.ref T.heap.size :: List.map (xc G) S0))) t
      rw [e2]
      exact b1
    · cases hF
  · cases hF
theorem xrecv_of {ci : Nat} {h : xH} {v : xV} (hq : xrecv ci h v = true) : ∃ o fs, v = vR o ∧ h.1 o = some (.inl (ci, fs)) := by
  unfold xrecv at hq
  split at hq
  · rename_i o
    split at hq
    · rename_i cj fs ho
      have : cj = ci := by simpa using hq
      subst this
      exact ⟨o, fs, rfl, ho⟩
    · cases hq
  · cases hq
theorem xrk3_of {ci : Nat} {h : xH} {v : xV} {as : List xV} (hq : xrk 3 ci h (v :: as) = true) : ∃ o, v = vR o := by
  match v, hq with
  | .inl _, hq => cases hq
  | .inr (.inl _), hq => cases hq
  | .inr (.inr (.inl none)), hq => cases hq
  | .inr (.inr (.inl (some o))), _ => exact ⟨o, rfl⟩
  | .inr (.inr (.inr (.inl _))), hq => cases hq
  | .inr (.inr (.inr (.inr (.inl _)))), hq => cases hq
  | .inr (.inr (.inr (.inr (.inr _)))), hq => cases hq
theorem xrk4_of {ci : Nat} {h : xH} {v : xV} {as : List xV} (hq : xrk 4 ci h (v :: as) = true) : ∃ j, j < 14 ∧ v = vS j := by
  match v, hq with
  | .inl _, hq => cases hq
  | .inr (.inl _), hq => cases hq
  | .inr (.inr (.inl none)), hq => cases hq
  | .inr (.inr (.inl (some o))), hq => cases hq
  | .inr (.inr (.inr (.inl _))), hq => cases hq
  | .inr (.inr (.inr (.inr (.inl j)))), hq => exact ⟨j, of_decide_eq_true hq, rfl⟩
  | .inr (.inr (.inr (.inr (.inr _)))), hq => cases hq
theorem xSnd.call {y n : Nat} {ok : xH → List xV → Bool} (hB : xSB mi pc (fun _ => x_call y n ok)) : xSnd mi pc (fun _ => x_call y n ok) := by
  refine ⟨?_, hB, ?_⟩
  · intro G p l e R s m args below meth c Q n0 z0 C L S h pc' L' S' h' hF
    unfold x_call at hF
    dsimp only at hF
    split at hF <;> cases hF
  · intro X L S h r hF
    unfold x_call at hF
    dsimp only at hF
    split at hF <;> cases hF
theorem xcall_st {S : List xV} {n : Nat} (hn : n ≤ S.length) : S = ((S.take n).reverse).reverse ++ S.drop n := by
  rw [List.reverse_reverse, List.take_append_drop]
theorem snd_callV {y ix ci : Nat} {q : vw_C} (hd : decode (x_cc mi) pc = .ok (.invokevirtual ix, 3)) (hy : y < x_cnt) (hc : x_cls[ci]? = some q) (hcy : (x_nm y).cls = q.1) (hna : x_na y = x_np y + 1) (hw1 : Cond.methodLink (x_on (x_ow mi)) ix (x_nm y) ∈ x_tbl) (hw2 : Cond.instanceMethod (x_nm y) ∈ x_tbl) (hw3 : Cond.selects q.1 (x_nm y) (x_nm y) ∈ x_tbl) : xSnd mi pc (fun _ => x_call y (x_na y) (xrk 2 ci)) := by
  refine xSnd.call ?_
  intro G p l e R s m args below meth c n0 C L S h y' as pc' S' hF
  unfold x_call at hF
  dsimp only at hF
  split at hF
  · rename_i hq
    obtain ⟨hq1, hq2, hq3⟩ := hq
    cases hF
    refine ⟨hy, rfl, fun H locs ls cells slots rm Pc Qc mc ms free hR hL hS hM hrc hrs hfr hlo hbl hPc hcs => ?_⟩
    obtain ⟨k1, k2, k3, k4, k5, k6, k7⟩ := x_okm_at hy
    have hst := xcall_st hq1
    have hlen : ((S.take (x_na y)).reverse).length = x_na y := by rw [List.length_reverse, List.length_take]; omega
    generalize (S.take (x_na y)).reverse = as at hst hlen hq3 hPc ⊢
    generalize S.drop (x_na y) = S1 at hst hq2 ⊢
    match as, hlen, hq3, hst, hPc with
    | [], hlen, _, _, _ => rw [hna] at hlen; simp at hlen
    | v :: as, hlen, hq3, hst, hPc =>
      have hv := xrecv_of (show xrecv ci h v = true from hq3)
      obtain ⟨o, fs, rfl, ho⟩ := hv
      have hT := C.2.2.2.2.2.1
      have hG : GoodIn x_tbl (wsV (x_on (x_ow mi)) ix q.1 (x_nm y) (x_ws y)) := by
        intro w hw
        unfold wsV at hw
        rcases List.mem_append.mp hw with hw | hw
        · refine x_tbl_good _ ?_
          simp only [List.mem_cons, List.not_mem_nil, or_false] at hw
          rcases hw with rfl | rfl | rfl | rfl
          · exact hw1
          · exact hw2
          · exact hw3
          · rw [← hcy]; exact k2
        · exact x_ws_good hy w hw
      refine va_runV (As := as.map (xc G)) (b := G.N + o) (rest := S1.map (xc G)) ⟨C.1, C.2.1, C.2.2.1, C.2.2.2.2.1, hT⟩ hM (cwV (x_np y) hT hG rfl hrc hrs ⟨hcy, k4, k5, k6⟩ ⟨hfr, hlo⟩) ⟨hbl, va_recv C.2.2.2.2.2.2.2.2.1 hR.2.1 hc (hR.at ho), hPc⟩ rfl (by rw [List.length_map]; rw [hna] at hlen; simpa using hlen) (by show ls.size = _; exact hL.1.1) ?_ (lv_room (by rw [xc_wd]; exact hq2)) hd hcs
      show S.map (xc G) = (as.map (xc G)).reverse ++ .ref (G.N + o) :: S1.map (xc G)
      rw [hst]
      simp [xc]
  · cases hF
theorem snd_callS {y ix ci : Nat} (hd : decode (x_cc mi) pc = .ok (.invokestatic ix, 3)) (hy : y < x_cnt) (hna : x_na y = x_np y) (hw1 : Cond.methodLink (x_on (x_ow mi)) ix (x_nm y) ∈ x_tbl) (hw2 : Cond.static (x_nm y) ∈ x_tbl) : xSnd mi pc (fun _ => x_call y (x_na y) (xrk 0 ci)) := by
  refine xSnd.call ?_
  intro G p l e R s m args below meth c n0 C L S h y' as pc' S' hF
  unfold x_call at hF
  dsimp only at hF
  split at hF
  · rename_i hq
    obtain ⟨hq1, hq2, hq3⟩ := hq
    cases hF
    refine ⟨hy, rfl, fun H locs ls cells slots rm Pc Qc mc ms free hR hL hS hM hrc hrs hfr hlo hbl hPc hcs => ?_⟩
    obtain ⟨k1, k2, k3, k4, k5, k6, k7⟩ := x_okm_at hy
    have hst := xcall_st hq1
    have hlen : ((S.take (x_na y)).reverse).length = x_na y := by rw [List.length_reverse, List.length_take]; omega
    generalize (S.take (x_na y)).reverse = as at hst hlen hq3 hPc ⊢
    generalize S.drop (x_na y) = S1 at hst hq2 ⊢
    have hT := C.2.2.2.2.2.1
    have hG : GoodIn x_tbl (va_wsS (x_on (x_ow mi)) ix (x_nm y) (x_ws y)) := by
      intro w hw
      unfold va_wsS at hw
      rcases List.mem_append.mp hw with hw | hw
      · refine x_tbl_good _ ?_
        simp only [List.mem_cons, List.not_mem_nil, or_false] at hw
        rcases hw with rfl | rfl | rfl
        · exact hw1
        · exact hw2
        · exact k2
      · exact x_ws_good hy w hw
    refine va_runS (As := as.map (xc G)) (rest := S1.map (xc G)) ⟨C.1, C.2.1, C.2.2.1, C.2.2.2.2.1, hT⟩ hM (va_cwS (x_np y) hT hG rfl hrc hrs ⟨k4, k5, k6⟩ ⟨hfr, hlo⟩) ⟨hbl, hPc⟩ rfl (by rw [List.length_map, hlen, hna]) (by show ls.size = _; exact hL.1.1) ?_ (lv_room (by rw [xc_wd]; exact hq2)) hd hcs
    show S.map (xc G) = (as.map (xc G)).reverse ++ S1.map (xc G)
    rw [hst]
    simp
  · cases hF
theorem snd_callN {y ix ci : Nat} {own nm : String} (hd : decode (x_cc mi) pc = .ok (.invokestatic ix, 3)) (hy : y < x_cnt) (hna : x_na y = x_np y) (ho : x_on (x_ow mi) = own) (hny : x_nm y = ⟨"FilmPrinter", nm, "(III)I"⟩) (hw1 : (own, ix, nm) ∈ [("FilmPrinter$Asker", 54, "nearest"), ("FilmPrinter$Edition", 63, "turnAfter"), ("FilmPrinter$Edition", 73, "nearest"), ("FilmPrinter$Explainer", 80, "turnAfter"), ("FilmPrinter$State", 99, "nearest")]) (hw2 : Cond.static (x_nm y) ∈ x_tbl) : xSnd mi pc (fun _ => x_call y (x_na y) (xrk 1 ci)) := by
  refine xSnd.call ?_
  intro G p l e R s m args below meth c n0 C L S h y' as pc' S' hF
  unfold x_call at hF
  dsimp only at hF
  split at hF
  · rename_i hq
    obtain ⟨hq1, hq2, hq3⟩ := hq
    cases hF
    refine ⟨hy, rfl, fun H locs ls cells slots rm Pc Qc mc ms free hR hL hS hM hrc hrs hfr hlo hbl hPc hcs => ?_⟩
    obtain ⟨k1, k2, k3, k4, k5, k6, k7⟩ := x_okm_at hy
    have hst := xcall_st hq1
    have hlen : ((S.take (x_na y)).reverse).length = x_na y := by rw [List.length_reverse, List.length_take]; omega
    generalize (S.take (x_na y)).reverse = as at hst hlen hq3 hPc ⊢
    generalize S.drop (x_na y) = S1 at hst hq2 ⊢
    have hT := C.2.2.2.2.2.1
    have hown := C.2.2.2.2.1
    rw [ho] at hown
    have hl : va_Nw (.methodLinkNest own ix (x_nm y) "FilmPrinter") s := by
      rw [hny]
      exact C.2.2.2.2.2.2.2.2.2.1.2.2.2.2.2.2.2.2.1.2.1 (own, ix, nm) hw1
    refine va_runSN (As := as.map (xc G)) (rest := S1.map (xc G)) ⟨C.1, C.2.1, C.2.2.1, hown, hT⟩ hM ⟨va_cnB (x_np y) hT (x_ws_good hy) rfl hrc hrs hl (hT _ k2) ⟨k4, k5, k6⟩ ⟨hfr, hlo⟩, hT _ hw2, trivial⟩ ⟨hbl, hPc⟩ rfl (by rw [List.length_map, hlen, hna]) (by show ls.size = _; exact hL.1.1) ?_ (lv_room (by rw [xc_wd]; exact hq2)) hd hcs
    show S.map (xc G) = (as.map (xc G)).reverse ++ S1.map (xc G)
    rw [hst]
    simp
  · cases hF
end
end
section
/-! SOUNDNESS: constructors, texts' methods, answers -/
section
variable {mi pc : Nat}
theorem snd_callI {y ix ci : Nat} (hd : decode (x_cc mi) pc = .ok (.invokespecial ix, 3)) (hy : y < x_cnt) (hna : x_na y = x_np y + 1) (hrt : x_rt y = none) (hin : (x_nm y).name = "<init>") (hw1 : Cond.methodLink (x_on (x_ow mi)) ix (x_nm y) ∈ x_tbl) (hw2 : Cond.instanceMethod (x_nm y) ∈ x_tbl) : xSnd mi pc (fun _ => x_call y (x_na y) (xrk 3 ci)) := by
  refine xSnd.call ?_
  intro G p l e R s m args below meth c n0 C L S h y' as pc' S' hF
  unfold x_call at hF
  dsimp only at hF
  split at hF
  · rename_i hq
    obtain ⟨hq1, hq2, hq3⟩ := hq
    cases hF
    refine ⟨hy, rfl, fun H locs ls cells slots rm Pc Qc mc ms free hR hL hS hM hrc hrs hfr hlo hbl hPc hcs => ?_⟩
    obtain ⟨k1, k2, k3, k4, k5, k6, k7⟩ := x_okm_at hy
    have hst := xcall_st hq1
    have hlen : ((S.take (x_na y)).reverse).length = x_na y := by rw [List.length_reverse, List.length_take]; omega
    generalize (S.take (x_na y)).reverse = as at hst hlen hq3 hPc ⊢
    generalize S.drop (x_na y) = S1 at hst hq2 ⊢
    match as, hlen, hq3, hst, hPc with
    | [], hlen, _, _, _ => rw [hna] at hlen; simp at hlen
    | v :: as, hlen, hq3, hst, hPc =>
      have hv := xrk3_of hq3
      obtain ⟨o, rfl⟩ := hv
      have hT := C.2.2.2.2.2.1
      have hws : x_ws y = Cond.code (x_nm y) (x_cc y) (x_ml y) none :: x_tbl := by unfold x_ws; rw [hrt]
      refine va_runI (As := as.map (xc G)) (b := G.N + o) (rest := S1.map (xc G)) ⟨C.1, C.2.1, C.2.2.1, C.2.2.2.2.1, hT⟩ hM (cwI (x_np y) hT (x_ws_good hy) hws hrc hrs (hT _ k2) (hT _ hw1) (hT _ hw2) hin ⟨k4, k5, k6⟩ ⟨hfr, hlo⟩) ⟨hbl, hPc⟩ rfl (by rw [List.length_map]; rw [hna] at hlen; simpa using hlen) (by show ls.size = _; exact hL.1.1) ?_ (lv_room (by rw [xc_wd]; exact hq2)) hd hcs
      show S.map (xc G) = (as.map (xc G)).reverse ++ .ref (G.N + o) :: S1.map (xc G)
      rw [hst]
      simp [xc]
  · cases hF
theorem snd_callT {y ix ci : Nat} (hd : decode (x_cc mi) pc = .ok (.invokevirtual ix, 3)) (hy : y < x_cnt) (hcy : (x_nm y).cls = "java/lang/String") (hna : x_na y = x_np y + 1) (hw1 : Cond.methodLink (x_on (x_ow mi)) ix (x_nm y) ∈ x_tbl) (hw2 : Cond.instanceMethod (x_nm y) ∈ x_tbl) (hw3 : Cond.selects "java/lang/String" (x_nm y) (x_nm y) ∈ x_tbl) : xSnd mi pc (fun _ => x_call y (x_na y) (xrk 4 ci)) := by
  refine xSnd.call ?_
  intro G p l e R s m args below meth c n0 C L S h y' as pc' S' hF
  unfold x_call at hF
  dsimp only at hF
  split at hF
  · rename_i hq
    obtain ⟨hq1, hq2, hq3⟩ := hq
    cases hF
    refine ⟨hy, rfl, fun H locs ls cells slots rm Pc Qc mc ms free hR hL hS hM hrc hrs hfr hlo hbl hPc hcs => ?_⟩
    obtain ⟨k1, k2, k3, k4, k5, k6, k7⟩ := x_okm_at hy
    have hst := xcall_st hq1
    have hlen : ((S.take (x_na y)).reverse).length = x_na y := by rw [List.length_reverse, List.length_take]; omega
    generalize (S.take (x_na y)).reverse = as at hst hlen hq3 hPc ⊢
    generalize S.drop (x_na y) = S1 at hst hq2 ⊢
    match as, hlen, hq3, hst, hPc with
    | [], hlen, _, _, _ => rw [hna] at hlen; simp at hlen
    | v :: as, hlen, hq3, hst, hPc =>
      have hv := xrk4_of hq3
      obtain ⟨j, hj, rfl⟩ := hv
      have hT := C.2.2.2.2.2.1
      have hG : GoodIn x_tbl (wsV (x_on (x_ow mi)) ix "java/lang/String" (x_nm y) (x_ws y)) := by
        intro w hw
        unfold wsV at hw
        rcases List.mem_append.mp hw with hw | hw
        · refine x_tbl_good _ ?_
          simp only [List.mem_cons, List.not_mem_nil, or_false] at hw
          rcases hw with rfl | rfl | rfl | rfl
          · exact hw1
          · exact hw2
          · exact hw3
          · rw [← hcy]; exact k2
        · exact x_ws_good hy w hw
      obtain ⟨cell, g1, g2, g3, -⟩ := (C.2.2.2.2.2.2.2.2.2.1.2.2.2.2.2.2.2.1 j hj).1.kept hS.2.1
      refine va_runV (As := as.map (xc G)) (b := G.sa j) (rest := S1.map (xc G)) ⟨C.1, C.2.1, C.2.2.1, C.2.2.2.2.1, hT⟩ hM (cwV (x_np y) hT hG rfl hrc hrs ⟨hcy, k4, k5, k6⟩ ⟨hfr, hlo⟩) ⟨hbl, ⟨cell, g1, g2, g3⟩, hPc⟩ rfl (by rw [List.length_map]; rw [hna] at hlen; simpa using hlen) (by show ls.size = _; exact hL.1.1) ?_ (lv_room (by rw [xc_wd]; exact hq2)) hd hcs
      show S.map (xc G) = (as.map (xc G)).reverse ++ .ref (G.sa j) :: S1.map (xc G)
      rw [hst]
      simp [xc]
  · cases hF
theorem snd_ret {ty : Nat} (h1 : ty = 4 → decode (x_cc mi) pc = .ok (.return_, 1) ∧ x_rt mi = none) (h2 : ty = 2 → decode (x_cc mi) pc = .ok (.lreturn, 1) ∧ x_rt mi = some .long) (h3 : ty ≠ 4 → ty ≠ 2 → decode (x_cc mi) pc = .ok (.ireturn, 1) ∧ ∃ t, x_rt mi = some t ∧ xtyk ty t = true) : xSnd mi pc (fun _ => x_ret ty) := by
  refine ⟨?_, ?_, ?_⟩
  · intro G p l e R s m args below meth c Q n0 z0 C L S h pc' L' S' h' hF
    unfold x_ret at hF
    dsimp only at hF
    repeat' split at hF
    all_goals cases hF
  · intro G p l e R s m args below meth c n0 C L S h y as pc' S' hF
    unfold x_ret at hF
    dsimp only at hF
    repeat' split at hF
    all_goals cases hF
  · intro X L S h r hF
    unfold x_ret at hF
    dsimp only at hF
    split at hF
    · split at hF
      · rename_i ht
        cases hF
        exact Or.inr (Or.inr ⟨rfl, rfl, (h1 ht).1, (h1 ht).2⟩)
      · cases hF
    · rename_i v
      split at hF
      · rename_i hq
        cases hF
        obtain ⟨q1, q2⟩ := hq
        by_cases ht : ty = 2
        · subst ht
          match v, q2 with
          | .inr (.inl x), _ => exact Or.inr (Or.inl ⟨x, rfl, rfl, (h2 rfl).1, (h2 rfl).2⟩)
        · have ht4 : ty ≠ 4 := by
            intro z
            subst z
            match v, q2 with
            | .inl x, q2 => cases q2
            | .inr (.inl x), q2 => cases q2
            | .inr (.inr x), q2 => cases q2
          obtain ⟨d1, t, d2, d3⟩ := h3 ht4 ht
          have hvi : ∃ x, v = vI x := by
            unfold xfit at q2
            split at q2
            · exact ⟨_, rfl⟩
            · exact ⟨_, rfl⟩
            · exact absurd rfl ht
            · exact absurd rfl q1
            · exact ⟨_, rfl⟩
            · exact ⟨_, rfl⟩
            · cases q2
          obtain ⟨x, rfl⟩ := hvi
          exact Or.inl ⟨x, t, rfl, rfl, d1, d2, (xfit_ok (G := ((fun _ => 0, fun _ _ => 0), fun _ => 0, 0, fun _ => none, fun _ => 0, X)) d3 q2).1⟩
      · cases hF
    · cases hF
end
end
section
/-! SOUNDNESS of runs -/
theorem xE.to {G : xG} {s U : State} {H : Heap} (hE : xE G s s.heap) (hW : s.WarmedH U.vm) (hq : ∀ a : Nat, a < s.heap.size → ¬ xA G a → H[a]? = s.heap[a]?) : xE G U H := by
  obtain ⟨e1, e2, e3, e4, e5, e6, e7, e8, ⟨e9, e10, e11, e12⟩, e13⟩ := hE
  have hA := hW.alike
  refine ⟨fun j hj => ?_, fun j hj => ?_, (e3.kept hq).moved hA, (e4.kept hq).moved hA, (e5.kept hq).moved hA, (e6.kept hq).moved hA, (e7.kept hq).moved hA, fun j hj => ?_, ⟨e9.warmF hW, fun q hq => (e10 q hq).warmM hW, e11.warmC hW, fun a ha => ?_⟩, e13.moved hA⟩
  · obtain ⟨a, ha, hT⟩ := e1 j hj
    exact ⟨a, ha, (hT.kept hq).moved hA⟩
  · obtain ⟨a, ha, hT⟩ := e2 j hj
    exact ⟨a, ha, (hT.kept hq).moved hA⟩
  · obtain ⟨g1, g2, g3, g4⟩ := e8 j hj
    exact ⟨(g1.kept hq).moved hA, (g2.kept hq).moved hA, (g3.kept hq).moved hA, g4.warm hW⟩
  · obtain ⟨vmd, g1, g2, g3, g4⟩ := e12 a ha
    exact ⟨vmd, by rw [hq a (Array.getElem?_eq_some_iff.mp g1).1 g4]; exact g1, g2, g3, g4⟩
theorem xE.calling {G : xG} {U : State} {H : Heap} (hE : xE G U H) (g : JFrame) (mk : MethodId) (a : Array Value) : xE G (U.calling g mk a) H := by
  obtain ⟨e1, e2, e3, e4, e5, e6, e7, e8, ⟨e9, e10, e11, e12⟩, e13⟩ := hE
  have hA : U.vm.Alike (U.calling g mk a).vm := Vm.Alike.refl U.vm
  refine ⟨fun j hj => ?_, fun j hj => ?_, e3.moved hA, e4.moved hA, e5.moved hA, e6.moved hA, e7.moved hA, fun j hj => ?_, ⟨e9.same rfl rfl, fun q hq => (e10 q hq).same rfl rfl, e11.same rfl rfl, e12⟩, e13.moved hA⟩
  · obtain ⟨a, ha, hT⟩ := e1 j hj
    exact ⟨a, ha, hT.moved hA⟩
  · obtain ⟨a, ha, hT⟩ := e2 j hj
    exact ⟨a, ha, hT.moved hA⟩
  · obtain ⟨g1, g2, g3, g4⟩ := e8 j hj
    exact ⟨g1.moved hA, g2.moved hA, g3.moved hA, g4.same rfl⟩
-- a method's first locals
theorem xlo_len (G : xG) (as : List xV) : (lg_sl (as.map (xc G))).length = (xlo as).length := by
  induction as with
  | nil => rfl
  | cons v as ih =>
    have e1 : lg_sl ((v :: as).map (xc G)) = (if (xc G v).category = 2 then [Slot.val (xc G v), Slot.second] else [Slot.val (xc G v)]) ++ lg_sl (as.map (xc G)) := by simp [lg_sl]
    have e2 : (xlo (v :: as)).length = xcat v + (xlo as).length := by
      unfold xlo
      rw [List.flatMap_cons, List.length_append]
      congr 1
      match v with
      | .inl _ => rfl
      | .inr (.inl _) => rfl
      | .inr (.inr (.inl _)) => rfl
      | .inr (.inr (.inr (.inl _))) => rfl
      | .inr (.inr (.inr (.inr (.inl _)))) => rfl
      | .inr (.inr (.inr (.inr (.inr _)))) => rfl
    rw [e1, e2, List.length_append, ih, xc_catE]
    congr 1
    by_cases h : xcat v = 2
    · rw [if_pos h, h]; rfl
    · rw [if_neg h]
      have : xcat v = 1 := by
        match v, h with
        | .inl _, _ => rfl
        | .inr (.inl _), h => exact absurd rfl h
        | .inr (.inr (.inl _)), _ => rfl
        | .inr (.inr (.inr (.inl _))), _ => rfl
        | .inr (.inr (.inr (.inr (.inl _)))), _ => rfl
        | .inr (.inr (.inr (.inr (.inr _)))), _ => rfl
      rw [this]; rfl
theorem xlo_step1 {G : xG} {as : List xV} {w v : xV} {k i : Nat} (ih : ∀ (k i : Nat) (v : xV), (xlo as)[i]? = some v → v ≠ vU → (k + i, xc G v) ∈ lv_args k (as.map (xc G))) (h1 : xlo1 w = [w]) (h2 : ¬ xcat w = 2) (h : (xlo (w :: as))[i]? = some v) (hv : v ≠ vU) : (k + i, xc G v) ∈ lv_args k ((w :: as).map (xc G)) := by
  have e1 : xlo (w :: as) = w :: xlo as := by
    unfold xlo
    rw [List.flatMap_cons, h1]
    rfl
  rw [e1] at h
  show (k + i, xc G v) ∈ (k, xc G w) :: lv_args (if (xc G w).category = 2 then k + 2 else k + 1) (as.map (xc G))
  rw [xc_catE, if_neg h2]
  cases i with
  | zero =>
    have e2 : w = v := by simpa using h
    subst e2
    exact List.mem_cons_self
  | succ i =>
    have h' : (xlo as)[i]? = some v := by simpa using h
    refine List.mem_cons_of_mem _ ?_
    have e := ih (k + 1) i v h' hv
    have e3 : k + 1 + i = k + (i + 1) := by omega
    rw [e3] at e
    exact e
theorem xlo_at (G : xG) : ∀ (as : List xV) (k i : Nat) (v : xV), (xlo as)[i]? = some v → v ≠ vU → (k + i, xc G v) ∈ lv_args k (as.map (xc G)) := by
  intro as
  induction as with
  | nil => intro k i v h; simp [xlo] at h
  | cons w as ih =>
    intro k i v h hv
    match w with
    | .inl _ => exact xlo_step1 ih rfl (by show ¬ (1 : Nat) = 2; decide) h hv
    | .inr (.inl x) =>
      have e1 : xlo (vL x :: as) = vL x :: vU :: xlo as := by
        unfold xlo
        rw [List.flatMap_cons]
        rfl
      have h : (vL x :: vU :: xlo as)[i]? = some v := by rw [← e1]; exact h
      show (k + i, xc G v) ∈ (k, xc G (vL x)) :: lv_args (if (xc G (vL x)).category = 2 then k + 2 else k + 1) (as.map (xc G))
      rw [xc_catE, if_pos (show xcat (vL x) = 2 from rfl)]
      cases i with
      | zero =>
        have e2 : vL x = v := by simpa using h
        subst e2
        exact List.mem_cons_self
      | succ i =>
        cases i with
        | zero =>
          have e2 : vU = v := by simpa using h
          exact absurd e2.symm hv
        | succ i =>
          have h' : (xlo as)[i]? = some v := by simpa using h
          refine List.mem_cons_of_mem _ ?_
          have e := ih (k + 2) i v h' hv
          have e3 : k + 2 + i = k + (i + 1 + 1) := by omega
          rw [e3] at e
          exact e
    | .inr (.inr (.inl _)) => exact xlo_step1 ih rfl (by show ¬ (1 : Nat) = 2; decide) h hv
    | .inr (.inr (.inr (.inl _))) => exact xlo_step1 ih rfl (by show ¬ (1 : Nat) = 2; decide) h hv
    | .inr (.inr (.inr (.inr (.inl _)))) => exact xlo_step1 ih rfl (by show ¬ (1 : Nat) = 2; decide) h hv
    | .inr (.inr (.inr (.inr (.inr _)))) => exact xlo_step1 ih rfl (by show ¬ (1 : Nat) = 2; decide) h hv
theorem xLR_entry {G : xG} {as : List xV} {n : Nat} (h : (xlo as).length ≤ n) : xLR G ((lg_sl (as.map (xc G)) ++ List.replicate (n - (lg_sl (as.map (xc G))).length) Slot.unset).toArray) n (xent n as) := by
  have h0 := lv_entry (as.map (xc G)) (n := n) (by rw [xlo_len]; exact h)
  refine ⟨⟨h0.1, h0.2.1, fun q hq => h0.2.2 q ?_⟩, ?_⟩
  · obtain ⟨v, h1, h2, h3⟩ := xlv_mem.mp hq
    unfold xent at h1
    by_cases hl : q.1 < (xlo as).length
    · rw [List.getElem?_append_left hl] at h1
      have e := xlo_at G as 0 q.1 v h1 h2
      rw [Nat.zero_add, ← h3] at e
      exact e
    · rw [List.getElem?_append_right (by omega), List.getElem?_replicate] at h1
      split at h1
      · cases h1; exact absurd rfl h2
      · cases h1
  · unfold xent
    rw [List.length_append, List.length_replicate]
    omega
/-- the table of a program, with the outer arrays put in -/
def xP (T : Nat → Nat → Option (xX → xF)) (X : xX) : Nat → Nat → Option xF := fun m pc => (T m pc).map (fun F => F X)
theorem xq_grow {T : Nat → Nat → Option (xX → xF)} {X : xX} (hM : ∀ mi pc F X L S h pc' L' S' h', T mi pc = some F → F X pc L S h = some (.inl (pc', L', S', h')) → h.2.1 ≤ h'.2.1 ∧ h.2.2 ≤ h'.2.2) :
    ∀ (f d m pc : Nat) (L S : List xV) (h : xH) (r : Option xV) (h' : xH), xq (xP T X) x_ml f d m pc L S h = some (r, h') → h.2.1 ≤ h'.2.1 ∧ h.2.2 ≤ h'.2.2 := by
  intro f
  induction f with
  | zero => intro d m pc L S h r h' hz; simp [xq] at hz
  | succ f ih =>
    intro d m pc L S h r h' hz
    rw [xq] at hz
    cases hP : xP T X m pc with
    | none => rw [hP] at hz; cases hz
    | some F =>
      rw [hP] at hz
      dsimp only at hz
      obtain ⟨F0', hF0, rfl⟩ := Option.map_eq_some_iff.mp hP
      cases hF : F0' X pc L S h with
      | none => rw [hF] at hz; cases hz
      | some q =>
        rw [hF] at hz
        match q, hF, hz with
        | .inl (pc2, L2, S2, h2), hF, hz =>
          have a1 := hM m pc F0' X L S h pc2 L2 S2 h2 hF0 hF
          have a2 := ih _ _ _ _ _ _ _ _ hz
          omega
        | .inr (.inr r2), hF, hz =>
          cases hz
          exact ⟨Nat.le_refl _, Nat.le_refl _⟩
        | .inr (.inl (y, as, pc2, S2)), hF, hz =>
          cases d with
          | zero => cases hz
          | succ d2 =>
            dsimp only at hz
            by_cases hl : (xlo as).length ≤ x_ml y
            · rw [if_pos hl] at hz
              cases hc : xq (xP T X) x_ml f d2 y 0 (xent (x_ml y) as) [] h with
              | none => rw [hc] at hz; cases hz
              | some w =>
                rw [hc] at hz
                obtain ⟨r1, h2⟩ := w
                have a1 := ih _ _ _ _ _ _ _ _ hc
                have a2 := ih _ _ _ _ _ _ _ _ hz
                omega
            · rw [if_neg hl] at hz
              cases hz
/-- a method's contract: one run of the abstract machine -/
def xPre (G : xG) (as : List xV) (h : xH) : Array Value → State → Prop := va_Pc (as.map (xc G)) (fun U => xRel G h U.heap ∧ va_K G.D x_cls (xtys G) U ∧ xE G U U.heap)
def xPost (G : xG) (r : Option xV) (h2 : xH) : Array Value → State → Outcome → State → Prop := fun _ st o t => o = .returned (r.map (xc G)) ∧ xRel G h2 t.heap ∧ ∀ q : Nat, q < G.N → t.heap[q]? = st.heap[q]?
def xRm (d mc ms : Nat) : Room := { frames := d + 1, cells := mc, slots := ms, locals := 64 * d + 64 }
theorem xPre_blind (G : xG) (as : List xV) (h : xH) : FrameBlind (xPre G as h) := fun a U g mk q => by
  obtain ⟨q0, q1, q2, q3⟩ := q
  exact ⟨q0, q1, va_K.moved (u := U) (U := U.calling g mk a) (Vm.Alike.refl U.vm) q2, q3.calling g mk a⟩
theorem x_ml_small : ∀ y, y < x_cnt → x_ml y ≤ 40 := by
  intro y hy
  have h : (List.range x_cnt).all (fun y => decide (x_ml y ≤ 40)) = true := by decide +kernel
  exact of_decide_eq_true (List.all_eq_true.mp h y (List.mem_range.mpr hy))
theorem xmain {T : Nat → Nat → Option (xX → xF)} (hT : ∀ mi pc F, T mi pc = some F → xSnd mi pc F) (hM : ∀ mi pc F X L S h pc' L' S' h', T mi pc = some F → F X pc L S h = some (.inl (pc', L', S', h')) → h.2.1 ≤ h'.2.1 ∧ h.2.2 ≤ h'.2.2) (G : xG) (l : Launch) :
    ∀ (f d mi pc : Nat) (L S : List xV) (h : xH) (r : Option xV) (h' : xH), xq (xP T G.X) x_ml f d mi pc L S h = some (r, h') →
    ∀ (p : Program) (e : Env) (R : Room) (s : State) (m : MethodId) (args : Array Value) (below : List Frame) (meth : Method) (c : Code) (Q : State → Prop) (n0 z0 : Nat), xCx G mi n0 p s m args meth c → d + 1 ≤ R.frames → 64 * d + 64 ≤ R.locals → h'.2.1 ≤ R.cells + n0 → h'.2.2 ≤ R.slots + z0 →
    (∀ (pc1 : Nat) (L1 S1 : List xV) (F : xX → xF), T mi pc1 = some F → F G.X pc1 L1 S1 h' = some (.inr (.inr r)) → xW G p l e R s m args below meth c n0 z0 Q mi pc1 L1 S1 h') → xW G p l e R s m args below meth c n0 z0 Q mi pc L S h := by
  intro f
  induction f with
  | zero => intro d mi pc L S h r h' hz; simp [xq] at hz
  | succ f ih =>
    intro d mi pc L S h r h' hz p e R s m args below meth c Q n0 z0 C hfr hlo hcl hsl hend
    rw [xq] at hz
    cases hP : xP T G.X mi pc with
    | none => rw [hP] at hz; cases hz
    | some F =>
      rw [hP] at hz
      dsimp only at hz
      obtain ⟨F0', hF0, rfl⟩ := Option.map_eq_some_iff.mp hP
      obtain ⟨hA, hB, -⟩ := hT mi pc F0' hF0
      cases hF : F0' G.X pc L S h with
      | none => rw [hF] at hz; cases hz
      | some q =>
        rw [hF] at hz
        match q, hF, hz with
        | .inl (pc2, L2, S2, h2), hF, hz =>
          have g2 := xq_grow hM _ _ _ _ _ _ _ _ _ hz
          obtain ⟨-, -, k⟩ := hA G p l e R s m args below meth c Q n0 z0 C L S h pc2 L2 S2 h2 hF
          exact k (by omega) (by omega) (by omega) (by omega) (ih d mi pc2 L2 S2 h2 r h' hz p e R s m args below meth c Q n0 z0 C hfr hlo hcl hsl hend)
        | .inr (.inr r2), hF, hz =>
          cases hz
          exact hend pc L S F0' hF0 hF
        | .inr (.inl (y, as, pc2, S2)), hF, hz =>
          cases d with
          | zero => cases hz
          | succ d2 =>
            dsimp only at hz
            by_cases hl : (xlo as).length ≤ x_ml y
            · rw [if_pos hl] at hz
              cases hc : xq (xP T G.X) x_ml f d2 y 0 (xent (x_ml y) as) [] h with
              | none => rw [hc] at hz; cases hz
              | some w =>
                rw [hc] at hz
                obtain ⟨r1, h2⟩ := w
                have g1 := xq_grow hM _ _ _ _ _ _ _ _ _ hc
                have g2 := xq_grow hM _ _ _ _ _ _ _ _ _ hz
                obtain ⟨hy, rfl, kB⟩ := hB G p l e R s m args below meth c n0 C L S h y as pc2 S2 hF
                -- the callee's contract
                have hMet : Met l (x_nm y) (x_ws y) (xRm d2 (h2.2.1 - h.2.1) (h2.2.2 - h.2.2)) (xPre G as h) (xPost G r1 h2) (h2.2.1 - h.2.1) (h2.2.2 - h.2.2) (xA G) := by
                  refine Met.ofW (cc := x_cc y) (maxL := x_ml y) (ret := x_rt y) (x_okm_at hy).2.2.1 rfl ?_
                  intro p' e' s' m' args' below' meth' c' s₁ B hml hv
                  obtain ⟨rfl, hR', hK', hE'⟩ := hv
                  have hts := atoms_spec (ws := x_ws y) B.pre
                  have hown : s'.vm.findClass (x_nm y).cls = some m'.cls := findClass_of_methodNamed B.named
                  rw [(x_okm_at hy).2.2.2.2.2.2] at hown
                  have C' : xCx G y h.2.1 p' s' m' (as.map (xc G)).toArray meth' c' := ⟨B.exec, B.bytes, hml, B.returns, hown, fun w hw => hts w (List.mem_cons_of_mem _ hw), B.notSynchronized, fun hn => by rw [(name_of_methodNamed B.named B.method).1]; exact hn, hK', hE', hR'.2.2⟩
                  have hW := ih d2 y 0 (xent (x_ml y) as) [] h r1 h2 hc p' e' (xRm d2 (h2.2.1 - h.2.1) (h2.2.2 - h.2.2)) s' m' (as.map (xc G)).toArray below' meth' c' (MQ below' (xPost G r1 h2) (as.map (xc G)).toArray s' (h2.2.1 - h.2.1) (h2.2.2 - h.2.2) (xA G)) h.2.1 h.2.2 C' (Nat.le_refl _) (Nat.le_refl _) (by show h2.2.1 ≤ (h2.2.1 - h.2.1) + h.2.1; omega) (by show h2.2.2 ≤ (h2.2.2 - h.2.2) + h.2.2; omega) ?_
                  · rw [lg_entry_eq]
                    exact hW s'.heap [] _ 0 0 hR' (xLR_entry hl) va_S.rf (Nat.zero_add _) (Nat.zero_add _)
                  · intro pc1 L1 S1 F hFt hFr H1 locs1 ls1 cells1 slots1 hR1 hL1 hS1 a1 a2
                    have e1 : cells1 = h2.2.1 - h.2.1 := by omega
                    have e2 : slots1 = h2.2.2 - h.2.2 := by omega
                    subst e1; subst e2
                    have hr' := B.returns
                    have hq : ∀ (t : State), t.heap = H1 → s'.WarmedH t.vm → xPost G r1 h2 (as.map (xc G)).toArray s' (.returned (r1.map (xc G))) t := fun t ht _ => ⟨rfl, by rw [ht]; exact hR1, fun q hq => by rw [ht]; exact hS1.2.1 q (by have := hR'.2.2; omega) (by show ¬ G.N ≤ q; omega)⟩
                    obtain ⟨-, -, hC⟩ := hT y pc1 F hFt
                    rcases hC G.X L1 S1 h2 r1 hFr with ⟨x, ty, rfl, rfl, b1, b2, b3⟩ | ⟨x, rfl, rfl, b1, b2⟩ | ⟨rfl, rfl, b1, b2⟩
                    · exact W.zret B.exec B.bytes (hr'.trans b2) b3 hq hS1.2.2 b1 (hlocks := B.notSynchronized)
                    · exact W.lret B.exec B.bytes (hr'.trans b2) hq hS1.2.2 b1 (hlocks := B.notSynchronized)
                    · exact W.vret B.exec B.bytes (hr'.trans b2) hq hS1.2.2 b1 (hlocks := B.notSynchronized)
                -- behind the call
                have hk := ih (d2 + 1) mi (pc + 3) L (r1.toList ++ S2) h2 r h' hz p e R s m args below meth c Q n0 z0 C hfr hlo hcl hsl hend
                intro H locs ls cells slots hR hL hS a1 a2 T0 hT0 X
                have hml40 := x_ml_small y hy
                obtain ⟨v, st₀, t, T', Lo, b0, X', bL, b1, b2, ⟨bv, bR, bq⟩, bst⟩ := kB H locs ls cells slots _ _ _ _ _ _ hR hL hS hMet rfl rfl (by show d2 + 1 + 1 ≤ R.frames; omega) (by show 8 + (x_ml y + 11) + (64 * d2 + 64) ≤ R.locals; omega) (xPre_blind G as h)
                  (fun U hU hW => ⟨rfl, by rw [hU]; exact hR, va_K.moved hW.alike C.2.2.2.2.2.2.2.2.1, by rw [hU]; exact C.2.2.2.2.2.2.2.2.2.1.to hW hS.2.1⟩) (by constructor <;> omega) T0 hT0 X
                cases bv
                have hS' : va_S (xA G) s.heap T'.heap (locs ++ Lo) := by
                  refine ⟨?_, fun q c1 c2 => ?_, fun q hq => ?_⟩
                  · rw [b1, bR.2.2, C.2.2.2.2.2.2.2.2.2.2]
                    omega
                  · have c3 : q < G.N := by
                      have : ¬ G.N ≤ q := c2
                      omega
                    rw [b1, bq q c3, b0]
                    exact hS.2.1 q c1 c2
                  · rcases List.mem_append.mp hq with hq | hq
                    · exact hS.2.2 q hq
                    · exact bL q hq
                obtain ⟨t2, d1, d3⟩ := hk T'.heap (locs ++ Lo) ls (cells + (h2.2.1 - h.2.1)) (slots + (h2.2.2 - h.2.2)) (by rw [b1]; exact bR) hL hS' (by omega) (by omega) T' rfl X'
                refine ⟨t2, bst t2 ?_, d3⟩
                have e3 : (r1.map (xc G)).toList ++ S2.map (xc G) = (r1.toList ++ S2).map (xc G) := by cases r1 <;> simp
                show Steps p.tables e below (T'.setTop (F0 m (pc + 3) ls ((r1.map (xc G)).toList ++ S2.map (xc G)))) t2
                rw [e3]
                exact d1
            · rw [if_neg hl] at hz
              cases hz
end
section
/-! SIDE TABLES: first values, switches, links (own class, place in its pool, what it names, places of the words) -/
def x_dft : Nat → List xV := fun k => (bif Nat.blt k 6 then (bif Nat.blt k 3 then (bif Nat.blt k 1 then [vN, vN, vI 0, vI 0, vI 0, vI 0] else (bif Nat.blt k 2 then [vI 0, vI 0, vN, vN, vN, vN] else [vN, vN, vN, vI 0, vI 0, vI 0])) else (bif Nat.blt k 4 then [vI 0, vI 0, vN, vN, vN, vN] else (bif Nat.blt k 5 then [vN, vN, vN, vI 0, vI 0, vI 0, vI 0, vI 0] else [vN, vN, vN, vN, vN, vN]))) else (bif Nat.blt k 9 then (bif Nat.blt k 7 then [vN, vI 0, vI 0, vI 0, vI 0] else (bif Nat.blt k 8 then [vN, vN, vN, vN, vI 0, vI 0, vI 0] else [vI 0, vI 0, vI 0, vN, vN, vN, vN, vN, vN, vN, vN, vN, vN, vN, vN])) else (bif Nat.blt k 10 then [vN, vI 0] else (bif Nat.blt k 11 then [vN, vN, vN, vN, vN, vN, vN, vN, vN, vN, vI 0, vI 0] else [vI 0, vI 0, vN, vN, vN, vN, vI 0, vI 0, vI 0, vI 0, vL 0, vI 0, vI 0, vI 0, vN, vI 0, vN, vN, vI 0, vN, vN, vI 0, vI 0, vN, vN, vI 0, vL 0, vL 0, vI 0, vI 0, vN, vN, vN, vN, vN, vN, vN, vN, vN, vN, vN, vN, vN, vN, vN, vN]))))
def x_swt : Nat → Int × List Nat × Nat := fun k => (bif Nat.blt k 2 then (bif Nat.blt k 1 then (0, [48, 56, 64, 72], 80) else (0, [44, 52, 60, 71, 79, 89, 99], 107)) else (bif Nat.blt k 3 then (20, [40, 45, 50, 55, 87, 100], 113) else (bif Nat.blt k 4 then (0, [48, 55, 60, 69, 76, 83, 90], 95) else (0, [172, 247, 280, 313, 376, 399, 412, 425, 468, 501, 544, 577, 610, 623, 646, 679, 712, 745, 778, 811, 834, 867, 900, 923, 946, 989, 1022, 1035, 1058, 1081, 1104], 1117))))
def x_lst : Nat → List (Int × Nat) × Nat := fun _ => ([(42, 78), (43, 60), (45, 69), (47, 87), (60, 105), (62, 122)], 139)
def x_lfl : List (Nat × Nat × Nat × Nat × (Nat × Nat)) := [(0, 9, 0, 0, (1, 212)),
  (0, 15, 0, 1, (1, 213)),
  (0, 24, 0, 3, (1, 215)),
  (0, 28, 0, 4, (1, 219)),
  (0, 31, 0, 5, (1, 222)),
  (0, 35, 8, 7, (1, 105)),
  (0, 39, 3, 0, (1, 50)),
  (0, 44, 3, 3, (1, 57)),
  (0, 51, 3, 2, (1, 55)),
  (0, 58, 0, 2, (1, 214)),
  (0, 61, 3, 4, (1, 59)),
  (0, 64, 3, 5, (1, 61)),
  (1, 9, 1, 2, (2, 10)),
  (1, 15, 1, 3, (2, 13)),
  (1, 18, 1, 4, (2, 16)),
  (1, 21, 1, 5, (2, 19)),
  (1, 24, 1, 0, (2, 3)),
  (1, 28, 1, 1, (2, 7)),
  (1, 31, 8, 0, (1, 80)),
  (1, 42, 0, 5, (1, 221)),
  (1, 46, 0, 4, (1, 218)),
  (1, 57, 0, 3, (1, 216)),
  (1, 60, 8, 8, (1, 108)),
  (1, 67, 8, 6, (1, 103)),
  (1, 70, 8, 4, (1, 94)),
  (2, 9, 2, 0, (2, 39)),
  (2, 15, 2, 1, (2, 40)),
  (2, 18, 2, 2, (2, 41)),
  (2, 25, 8, 6, (1, 100)),
  (2, 30, 1, 1, (2, 8)),
  (2, 54, 1, 0, (2, 5)),
  (2, 57, 8, 2, (1, 88)),
  (2, 66, 1, 4, (2, 17)),
  (2, 69, 8, 9, (1, 111)),
  (2, 84, 2, 3, (2, 43)),
  (2, 87, 2, 4, (2, 45)),
  (2, 90, 2, 5, (2, 47)),
  (3, 9, 3, 2, (1, 54)),
  (3, 15, 3, 3, (1, 56)),
  (3, 18, 3, 4, (1, 58)),
  (3, 21, 3, 5, (1, 60)),
  (3, 24, 3, 0, (1, 49)),
  (3, 28, 3, 1, (1, 52)),
  (4, 9, 4, 0, (2, 124)),
  (4, 15, 4, 1, (2, 125)),
  (4, 18, 4, 2, (2, 126)),
  (4, 21, 8, 6, (1, 98)),
  (4, 26, 8, 1, (1, 83)),
  (4, 50, 5, 1, (2, 98)),
  (4, 60, 4, 3, (2, 128)),
  (4, 63, 4, 4, (2, 130)),
  (4, 70, 4, 5, (2, 132)),
  (4, 73, 4, 6, (2, 134)),
  (4, 79, 4, 7, (2, 136)),
  (5, 9, 5, 0, (2, 95)),
  (5, 15, 5, 1, (2, 97)),
  (5, 18, 5, 2, (2, 99)),
  (5, 21, 5, 3, (2, 101)),
  (5, 25, 5, 4, (2, 102)),
  (5, 28, 5, 5, (2, 103)),
  (5, 37, 8, 6, (1, 101)),
  (5, 42, 8, 10, (1, 114)),
  (5, 45, 8, 11, (1, 117)),
  (5, 56, 8, 1, (1, 85)),
  (5, 60, 8, 4, (1, 93)),
  (5, 73, 8, 12, (1, 120)),
  (6, 9, 6, 0, (2, 68)),
  (6, 15, 6, 1, (2, 70)),
  (6, 19, 8, 6, (1, 99)),
  (6, 24, 1, 0, (2, 4)),
  (6, 33, 1, 3, (2, 14)),
  (6, 36, 1, 2, (2, 11)),
  (6, 43, 8, 1, (1, 84)),
  (6, 46, 8, 5, (1, 96)),
  (6, 49, 6, 2, (2, 72)),
  (6, 52, 6, 3, (2, 74)),
  (6, 55, 6, 4, (2, 76)),
  (7, 12, 7, 0, (1, 183)),
  (7, 18, 7, 1, (1, 185)),
  (7, 22, 7, 2, (1, 186)),
  (7, 25, 7, 3, (1, 187)),
  (7, 35, 7, 5, (1, 189)),
  (7, 39, 7, 6, (1, 190)),
  (7, 49, 7, 4, (1, 188)),
  (7, 52, 9, 1, (1, 168)),
  (7, 57, 9, 0, (1, 165)),
  (7, 149, 3, 1, (1, 53)),
  (8, 9, 8, 3, (1, 90)),
  (8, 15, 8, 4, (1, 92)),
  (8, 18, 8, 5, (1, 95)),
  (8, 29, 8, 6, (1, 97)),
  (8, 35, 8, 7, (1, 104)),
  (8, 39, 8, 8, (1, 107)),
  (8, 42, 8, 9, (1, 110)),
  (8, 45, 8, 10, (1, 113)),
  (8, 48, 8, 11, (1, 116)),
  (8, 51, 8, 12, (1, 119)),
  (8, 54, 8, 13, (1, 122)),
  (8, 57, 8, 14, (1, 124)),
  (8, 66, 8, 0, (1, 79)),
  (8, 70, 8, 1, (1, 82)),
  (8, 73, 8, 2, (1, 87)),
  (9, 9, 9, 0, (1, 164)),
  (9, 15, 9, 1, (1, 167)),
  (10, 10, 10, 0, (2, 155)),
  (10, 16, 10, 1, (2, 156)),
  (10, 23, 10, 2, (2, 157)),
  (10, 30, 10, 3, (2, 158)),
  (10, 37, 10, 4, (2, 159)),
  (10, 44, 10, 5, (2, 160)),
  (10, 51, 10, 6, (2, 161)),
  (10, 58, 10, 7, (2, 162)),
  (10, 65, 10, 8, (2, 163)),
  (10, 72, 10, 9, (2, 164)),
  (10, 76, 10, 10, (2, 165)),
  (10, 80, 10, 11, (2, 166)),
  (10, 91, 8, 0, (1, 81)),
  (10, 94, 8, 3, (1, 91)),
  (10, 118, 8, 6, (1, 102)),
  (10, 121, 9, 1, (1, 169)),
  (10, 136, 8, 7, (1, 106)),
  (10, 140, 7, 0, (1, 184)),
  (10, 149, 3, 0, (1, 51)),
  (10, 159, 0, 3, (1, 217)),
  (10, 162, 0, 4, (1, 220)),
  (10, 165, 0, 5, (1, 223)),
  (10, 173, 1, 0, (2, 6)),
  (10, 176, 1, 1, (2, 9)),
  (10, 183, 1, 2, (2, 12)),
  (10, 186, 1, 3, (2, 15)),
  (10, 189, 8, 8, (1, 109)),
  (10, 192, 1, 4, (2, 18)),
  (10, 203, 8, 2, (1, 89)),
  (10, 206, 9, 0, (1, 166)),
  (10, 209, 8, 9, (1, 112)),
  (10, 221, 2, 3, (2, 44)),
  (10, 224, 2, 4, (2, 46)),
  (10, 227, 2, 5, (2, 48)),
  (10, 230, 2, 2, (2, 42)),
  (10, 237, 6, 1, (2, 71)),
  (10, 240, 6, 0, (2, 69)),
  (10, 250, 6, 2, (2, 73)),
  (10, 253, 6, 3, (2, 75)),
  (10, 256, 6, 4, (2, 77)),
  (10, 262, 8, 10, (1, 115)),
  (10, 265, 8, 11, (1, 118)),
  (10, 268, 8, 12, (1, 121)),
  (10, 275, 5, 2, (2, 100)),
  (10, 278, 5, 0, (2, 96)),
  (10, 284, 4, 3, (2, 129)),
  (10, 285, 4, 4, (2, 131)),
  (10, 288, 4, 5, (2, 133)),
  (10, 291, 4, 6, (2, 135)),
  (10, 294, 4, 7, (2, 137)),
  (10, 297, 8, 1, (1, 86)),
  (10, 300, 4, 2, (2, 127)),
  (10, 306, 8, 14, (1, 125)),
  (10, 309, 8, 13, (1, 123)),
  (11, 7, 11, 2, (4, 228)),
  (11, 13, 11, 3, (4, 229)),
  (11, 16, 11, 4, (4, 230)),
  (11, 20, 11, 5, (4, 231)),
  (11, 23, 11, 11, (4, 237)),
  (11, 27, 11, 14, (5, 0)),
  (11, 30, 11, 16, (5, 2)),
  (11, 33, 11, 17, (5, 3)),
  (11, 36, 11, 19, (5, 5)),
  (11, 39, 11, 20, (5, 6)),
  (11, 42, 11, 23, (5, 9)),
  (11, 46, 11, 24, (5, 10)),
  (11, 49, 11, 30, (5, 16)),
  (11, 52, 11, 31, (5, 17)),
  (11, 55, 11, 32, (5, 18)),
  (11, 58, 11, 33, (5, 19)),
  (11, 61, 11, 34, (5, 20)),
  (11, 64, 11, 35, (5, 21)),
  (11, 67, 11, 36, (5, 22)),
  (11, 70, 11, 37, (5, 23)),
  (11, 73, 11, 38, (5, 24)),
  (11, 76, 11, 39, (5, 25)),
  (11, 80, 11, 40, (5, 26)),
  (11, 83, 11, 41, (5, 27)),
  (11, 86, 11, 42, (5, 28)),
  (11, 89, 11, 43, (5, 29)),
  (11, 92, 11, 44, (5, 30)),
  (11, 95, 11, 45, (5, 31)),
  (11, 98, 11, 0, (4, 226)),
  (11, 101, 11, 1, (4, 227)),
  (11, 145, 11, 6, (4, 232)),
  (11, 152, 11, 8, (4, 234)),
  (11, 155, 11, 12, (4, 238)),
  (11, 162, 11, 7, (4, 233)),
  (11, 165, 11, 10, (4, 236)),
  (11, 175, 11, 9, (4, 235)),
  (11, 194, 11, 15, (5, 1)),
  (11, 197, 11, 21, (5, 7)),
  (11, 233, 11, 22, (5, 8)),
  (11, 239, 11, 18, (5, 4)),
  (11, 296, 11, 13, (4, 239)),
  (11, 310, 11, 25, (5, 11)),
  (11, 321, 11, 26, (5, 12)),
  (11, 327, 11, 27, (5, 13)),
  (11, 355, 11, 28, (5, 14)),
  (11, 358, 11, 29, (5, 15))]
def x_lmk : List (Nat × Nat × Nat × Nat × (Nat × Nat) × (Nat × Nat) × (Nat × Nat)) := [(0, 18, 72, 2, (3, 203), (2, 208), (2, 209)),
  (0, 47, 10, 2, (3, 204), (3, 206), (0, 15)),
  (0, 54, 83, 1, (3, 222), (2, 215), (0, 0)),
  (0, 67, 11, 2, (3, 208), (3, 210), (0, 16)),
  (0, 71, 12, 2, (3, 212), (3, 214), (0, 17)),
  (0, 75, 13, 2, (3, 216), (3, 218), (0, 18)),
  (1, 36, 9, 2, (3, 231), (3, 200), (3, 201)),
  (1, 49, 16, 2, (3, 232), (3, 234), (0, 19)),
  (1, 53, 72, 2, (3, 236), (2, 208), (2, 209)),
  (1, 63, 99, 1, (4, 17), (4, 18), (0, 0)),
  (1, 73, 83, 1, (4, 24), (2, 215), (0, 0)),
  (2, 21, 22, 2, (4, 46), (4, 48), (0, 22)),
  (2, 36, 23, 2, (4, 56), (4, 58), (0, 23)),
  (2, 40, 24, 2, (4, 60), (4, 62), (0, 24)),
  (2, 44, 25, 2, (4, 65), (4, 67), (0, 25)),
  (2, 48, 1, 0, (4, 50), (1, 77), (0, 0)),
  (2, 72, 18, 2, (4, 52), (4, 21), (4, 22)),
  (2, 80, 99, 1, (4, 64), (4, 18), (0, 0)),
  (3, 31, 73, 0, (3, 181), (3, 182), (0, 0)),
  (4, 30, 34, 0, (4, 149), (4, 150), (0, 0)),
  (4, 34, 35, 0, (4, 152), (4, 153), (0, 0)),
  (4, 38, 36, 2, (4, 156), (4, 158), (0, 29)),
  (4, 42, 38, 2, (4, 164), (4, 166), (0, 31)),
  (4, 46, 39, 2, (4, 169), (4, 171), (0, 32)),
  (4, 66, 37, 2, (4, 160), (4, 162), (0, 30)),
  (5, 31, 1, 0, (4, 122), (1, 77), (0, 0)),
  (5, 48, 43, 2, (4, 123), (4, 125), (0, 26)),
  (5, 52, 44, 2, (4, 129), (4, 131), (0, 27)),
  (6, 29, 19, 2, (4, 81), (4, 82), (4, 83)),
  (6, 39, 72, 2, (4, 85), (2, 208), (2, 209)),
  (6, 58, 47, 2, (4, 102), (4, 91), (4, 92)),
  (6, 62, 49, 0, (4, 103), (4, 104), (0, 0)),
  (7, 11, 26, 3, (1, 182), (1, 46), (0, 0)),
  (7, 28, 52, 2, (3, 26), (3, 28), (0, 3)),
  (7, 32, 27, 2, (3, 120), (3, 121), (3, 122)),
  (7, 42, 61, 2, (3, 124), (3, 126), (0, 6)),
  (7, 46, 62, 2, (3, 128), (3, 130), (0, 7)),
  (7, 60, 53, 0, (3, 30), (3, 31), (0, 0)),
  (7, 64, 54, 2, (3, 33), (3, 35), (0, 4)),
  (7, 68, 59, 0, (3, 112), (3, 113), (0, 0)),
  (7, 71, 60, 0, (3, 115), (3, 116), (0, 0)),
  (7, 75, 57, 2, (3, 98), (3, 100), (0, 5)),
  (7, 86, 55, 0, (3, 37), (3, 38), (0, 0)),
  (7, 89, 58, 0, (3, 102), (3, 103), (0, 0)),
  (7, 94, 56, 0, (3, 41), (3, 42), (0, 0)),
  (7, 123, 2, 4, (3, 44), (3, 45), (3, 46)),
  (7, 128, 4, 4, (3, 54), (3, 55), (3, 56)),
  (7, 132, 63, 2, (3, 132), (3, 134), (0, 8)),
  (7, 135, 66, 2, (3, 149), (3, 151), (0, 11)),
  (7, 138, 28, 2, (3, 145), (3, 146), (3, 147)),
  (7, 142, 30, 2, (3, 169), (3, 170), (3, 171)),
  (7, 146, 67, 2, (3, 153), (3, 155), (0, 12)),
  (7, 152, 29, 2, (3, 165), (3, 166), (3, 167)),
  (7, 155, 68, 2, (3, 157), (3, 159), (0, 13)),
  (7, 158, 69, 2, (3, 161), (3, 163), (0, 14)),
  (7, 161, 64, 2, (3, 136), (3, 138), (0, 9)),
  (7, 164, 65, 2, (3, 140), (3, 142), (0, 10)),
  (8, 34, 26, 3, (1, 45), (1, 46), (0, 0)),
  (8, 60, 1, 0, (1, 76), (1, 77), (0, 0)),
  (8, 76, 73, 0, (4, 205), (3, 182), (0, 0)),
  (8, 80, 31, 2, (4, 206), (3, 178), (3, 179)),
  (8, 96, 72, 2, (2, 207), (2, 208), (2, 209)),
  (8, 99, 83, 1, (2, 214), (2, 215), (0, 0)),
  (10, 9, 70, 3, (1, 30), (1, 31), (0, 0)),
  (10, 22, 76, 3, (1, 160), (1, 161), (0, 0)),
  (10, 29, 50, 3, (1, 177), (1, 178), (0, 0)),
  (10, 36, 8, 3, (1, 208), (1, 209), (0, 0)),
  (10, 43, 14, 3, (1, 239), (2, 0), (0, 0)),
  (10, 50, 20, 3, (2, 35), (2, 36), (0, 0)),
  (10, 57, 45, 3, (2, 64), (2, 65), (0, 0)),
  (10, 64, 40, 3, (2, 91), (2, 92), (0, 0)),
  (10, 71, 32, 3, (2, 120), (2, 121), (0, 0)),
  (10, 83, 81, 0, (2, 196), (2, 197), (0, 0)),
  (10, 87, 82, 2, (2, 199), (2, 201), (0, 0)),
  (10, 98, 71, 2, (2, 203), (2, 204), (2, 205)),
  (10, 101, 84, 2, (2, 221), (2, 223), (0, 1)),
  (10, 104, 86, 2, (2, 233), (2, 235), (0, 2)),
  (10, 108, 72, 2, (2, 237), (2, 208), (2, 209)),
  (10, 124, 77, 2, (3, 10), (3, 11), (3, 12)),
  (10, 128, 51, 2, (3, 22), (3, 23), (3, 24)),
  (10, 132, 78, 2, (3, 173), (3, 174), (3, 175)),
  (10, 143, 31, 2, (3, 177), (3, 178), (3, 179)),
  (10, 152, 93, 0, (3, 196), (3, 197), (0, 0)),
  (10, 155, 9, 2, (3, 199), (3, 200), (3, 201)),
  (10, 169, 15, 2, (3, 227), (3, 228), (3, 229)),
  (10, 179, 96, 2, (4, 1), (4, 3), (0, 20)),
  (10, 195, 17, 2, (4, 13), (4, 14), (4, 15)),
  (10, 199, 18, 2, (4, 20), (4, 21), (4, 22)),
  (10, 218, 103, 2, (4, 38), (4, 40), (0, 21)),
  (10, 233, 46, 2, (4, 77), (4, 78), (4, 79)),
  (10, 243, 47, 2, (4, 90), (4, 91), (4, 92)),
  (10, 247, 48, 2, (4, 98), (4, 99), (4, 100)),
  (10, 259, 109, 0, (4, 111), (4, 112), (0, 0)),
  (10, 271, 42, 2, (4, 118), (4, 119), (4, 120)),
  (10, 281, 113, 2, (4, 141), (4, 143), (0, 28)),
  (10, 303, 116, 0, (4, 181), (4, 182), (0, 0)),
  (10, 312, 74, 2, (4, 188), (4, 189), (4, 190)),
  (10, 315, 1, 0, (4, 196), (1, 77), (0, 0)),
  (10, 321, 41, 2, (2, 225), (2, 226), (2, 227)),
  (10, 324, 75, 2, (4, 201), (4, 202), (4, 203)),
  (10, 327, 21, 2, (4, 42), (4, 43), (4, 44)),
  (10, 330, 33, 2, (4, 145), (4, 146), (4, 147)),
  (11, 106, 125, 0, (5, 130), (5, 131), (0, 0)),
  (11, 110, 126, 2, (5, 133), (5, 135), (0, 33)),
  (11, 114, 128, 2, (5, 141), (5, 143), (0, 34)),
  (11, 119, 130, 0, (5, 155), (5, 156), (0, 0)),
  (11, 122, 133, 2, (5, 167), (5, 169), (0, 36)),
  (11, 133, 132, 2, (5, 162), (5, 164), (0, 35)),
  (11, 139, 135, 0, (5, 175), (5, 176), (0, 0)),
  (11, 142, 136, 0, (5, 178), (5, 179), (0, 0)),
  (11, 148, 138, 2, (5, 185), (5, 187), (0, 37)),
  (11, 159, 143, 2, (5, 205), (5, 207), (0, 39)),
  (11, 169, 144, 0, (5, 209), (5, 210), (0, 0)),
  (11, 172, 145, 0, (5, 212), (5, 213), (0, 0)),
  (11, 190, 149, 2, (5, 236), (5, 238), (0, 43)),
  (11, 200, 160, 0, (6, 49), (6, 50), (0, 0)),
  (11, 203, 158, 2, (6, 41), (6, 43), (0, 52)),
  (11, 217, 148, 2, (5, 230), (5, 232), (0, 42)),
  (11, 236, 152, 2, (6, 9), (6, 11), (0, 46)),
  (11, 242, 153, 2, (6, 13), (6, 15), (0, 47)),
  (11, 245, 154, 2, (6, 17), (6, 19), (0, 48)),
  (11, 248, 156, 2, (6, 25), (6, 27), (0, 50)),
  (11, 254, 157, 2, (6, 37), (6, 39), (0, 51)),
  (11, 260, 155, 2, (6, 21), (6, 23), (0, 49)),
  (11, 263, 161, 2, (6, 52), (6, 54), (0, 54)),
  (11, 266, 162, 2, (6, 56), (6, 58), (0, 55)),
  (11, 269, 163, 2, (6, 60), (6, 62), (0, 56)),
  (11, 277, 151, 2, (6, 4), (6, 6), (0, 45)),
  (11, 280, 159, 2, (6, 45), (6, 47), (0, 53)),
  (11, 284, 164, 2, (6, 68), (6, 70), (0, 57)),
  (11, 293, 147, 2, (5, 225), (5, 227), (0, 41)),
  (11, 299, 150, 2, (6, 0), (6, 2), (0, 44)),
  (11, 304, 142, 2, (5, 201), (5, 203), (0, 38)),
  (11, 307, 146, 2, (5, 221), (5, 223), (0, 40)),
  (11, 313, 172, 2, (6, 103), (6, 105), (0, 63)),
  (11, 324, 171, 2, (6, 99), (6, 101), (0, 62)),
  (11, 330, 170, 2, (6, 95), (6, 97), (0, 61)),
  (11, 333, 168, 2, (6, 87), (6, 89), (0, 59)),
  (11, 336, 169, 2, (6, 91), (6, 93), (0, 60)),
  (11, 340, 166, 0, (6, 79), (6, 80), (0, 0)),
  (11, 345, 167, 2, (6, 83), (6, 85), (0, 58)),
  (11, 349, 173, 2, (6, 109), (6, 111), (0, 64)),
  (11, 352, 174, 2, (6, 113), (6, 115), (0, 65)),
  (11, 361, 176, 2, (6, 121), (6, 123), (0, 66)),
  (11, 364, 183, 0, (6, 150), (6, 151), (0, 0)),
  (11, 368, 182, 2, (6, 146), (6, 148), (0, 69)),
  (11, 373, 180, 2, (6, 138), (6, 140), (0, 67)),
  (11, 376, 181, 2, (6, 142), (6, 144), (0, 68)),
  (11, 379, 189, 2, (6, 173), (6, 175), (0, 72)),
  (11, 382, 188, 2, (6, 169), (6, 171), (0, 71)),
  (11, 385, 187, 2, (6, 165), (6, 167), (0, 70)),
  (11, 388, 194, 2, (6, 193), (6, 195), (0, 74)),
  (11, 391, 195, 2, (6, 197), (6, 199), (0, 75)),
  (11, 394, 193, 2, (6, 189), (6, 191), (0, 73)),
  (11, 397, 197, 2, (6, 205), (6, 207), (0, 76)),
  (11, 400, 199, 0, (6, 213), (6, 214), (0, 0)),
  (11, 403, 202, 2, (6, 224), (6, 226), (0, 78)),
  (11, 406, 203, 2, (6, 228), (6, 230), (0, 79)),
  (11, 410, 201, 2, (6, 220), (6, 222), (0, 77)),
  (11, 413, 208, 2, (7, 9), (7, 11), (0, 82)),
  (11, 416, 207, 2, (7, 5), (7, 7), (0, 81)),
  (11, 421, 206, 2, (7, 1), (7, 3), (0, 80)),
  (12, 9, 79, 3, (1, 22), (1, 23), (0, 0)),
  (12, 12, 123, 3, (4, 221), (4, 222), (0, 0)),
  (12, 13, 80, 2, (2, 192), (2, 193), (2, 194)),
  (12, 17, 129, 2, (5, 145), (5, 146), (5, 147)),
  (12, 18, 85, 2, (2, 229), (2, 230), (2, 231)),
  (12, 22, 131, 2, (5, 158), (5, 159), (5, 160)),
  (12, 23, 87, 2, (2, 238), (2, 239), (3, 0)),
  (12, 26, 134, 2, (5, 171), (5, 172), (5, 173)),
  (12, 27, 88, 2, (3, 6), (3, 7), (3, 8)),
  (12, 31, 137, 2, (5, 181), (5, 182), (5, 183)),
  (12, 32, 89, 2, (3, 14), (3, 15), (3, 16)),
  (12, 36, 139, 2, (5, 189), (5, 190), (5, 191)),
  (12, 37, 90, 2, (3, 18), (3, 19), (3, 20)),
  (12, 41, 141, 2, (5, 197), (5, 198), (5, 199)),
  (12, 42, 91, 2, (3, 188), (3, 189), (3, 190)),
  (12, 45, 140, 2, (5, 193), (5, 194), (5, 195)),
  (12, 46, 92, 2, (3, 192), (3, 193), (3, 194)),
  (12, 50, 165, 2, (6, 75), (6, 76), (6, 77)),
  (12, 51, 94, 2, (3, 223), (3, 224), (3, 225)),
  (12, 54, 175, 2, (6, 117), (6, 118), (6, 119)),
  (12, 55, 95, 2, (3, 237), (3, 238), (3, 239)),
  (12, 58, 177, 2, (6, 125), (6, 126), (6, 127)),
  (12, 59, 97, 2, (4, 5), (4, 6), (4, 7)),
  (12, 62, 178, 2, (6, 129), (6, 130), (6, 131)),
  (12, 63, 98, 2, (4, 9), (4, 10), (4, 11)),
  (12, 66, 179, 2, (6, 134), (6, 135), (6, 136)),
  (12, 67, 100, 2, (4, 25), (4, 26), (4, 27)),
  (12, 70, 184, 2, (6, 153), (6, 154), (6, 155)),
  (12, 71, 101, 2, (4, 30), (4, 31), (4, 32)),
  (12, 74, 185, 2, (6, 157), (6, 158), (6, 159)),
  (12, 75, 102, 2, (4, 34), (4, 35), (4, 36)),
  (12, 78, 186, 2, (6, 161), (6, 162), (6, 163)),
  (12, 79, 104, 2, (4, 69), (4, 70), (4, 71)),
  (12, 82, 190, 2, (6, 177), (6, 178), (6, 179)),
  (12, 83, 105, 2, (4, 73), (4, 74), (4, 75)),
  (12, 86, 191, 2, (6, 181), (6, 182), (6, 183)),
  (12, 87, 106, 2, (4, 86), (4, 87), (4, 88)),
  (12, 90, 192, 2, (6, 185), (6, 186), (6, 187)),
  (12, 91, 107, 2, (4, 94), (4, 95), (4, 96)),
  (12, 94, 196, 2, (6, 201), (6, 202), (6, 203)),
  (12, 95, 108, 2, (4, 107), (4, 108), (4, 109)),
  (12, 98, 198, 2, (6, 209), (6, 210), (6, 211)),
  (12, 99, 110, 2, (4, 114), (4, 115), (4, 116)),
  (12, 102, 200, 2, (6, 216), (6, 217), (6, 218)),
  (12, 103, 111, 2, (4, 133), (4, 134), (4, 135)),
  (12, 106, 204, 2, (6, 232), (6, 233), (6, 234)),
  (12, 107, 112, 2, (4, 137), (4, 138), (4, 139)),
  (12, 110, 205, 2, (6, 236), (6, 237), (6, 238)),
  (12, 111, 114, 2, (4, 173), (4, 174), (4, 175)),
  (12, 114, 209, 2, (7, 13), (7, 14), (7, 15)),
  (12, 115, 115, 2, (4, 177), (4, 178), (4, 179)),
  (12, 118, 210, 2, (7, 17), (7, 18), (7, 19)),
  (12, 119, 117, 2, (4, 184), (4, 185), (4, 186)),
  (12, 122, 211, 2, (7, 21), (7, 22), (7, 23)),
  (12, 123, 118, 2, (4, 192), (4, 193), (4, 194)),
  (12, 126, 212, 2, (7, 25), (7, 26), (7, 27)),
  (12, 127, 119, 2, (4, 197), (4, 198), (4, 199)),
  (12, 130, 124, 2, (5, 126), (5, 127), (5, 128)),
  (12, 131, 120, 2, (4, 207), (4, 208), (4, 209)),
  (12, 134, 127, 2, (5, 137), (5, 138), (5, 139)),
  (12, 135, 121, 2, (4, 211), (4, 212), (4, 213)),
  (12, 138, 213, 2, (7, 29), (7, 30), (7, 31)),
  (12, 139, 122, 2, (4, 215), (4, 216), (4, 217)),
  (12, 142, 214, 2, (7, 33), (7, 34), (7, 35)),
  (14, 335, 3, 4, (3, 48), (3, 49), (3, 50)),
  (14, 492, 5, 4, (3, 58), (3, 59), (3, 60)),
  (14, 495, 7, 0, (3, 62), (3, 63), (0, 0)),
  (14, 1059, 0, 0, (3, 70), (3, 71), (0, 0)),
  (15, 9, 6, 0, (3, 65), (3, 66), (0, 0))]
def x_lnw : List (Nat × Nat × Nat × (Nat × Nat) × (Nat × Nat) × (Nat × Nat)) := [(7, 9, 3, (1, 181), (1, 44), (1, 3)),
  (8, 32, 3, (1, 43), (1, 44), (1, 3)),
  (10, 7, 8, (1, 28), (1, 29), (1, 2)),
  (10, 20, 9, (1, 158), (1, 159), (1, 5)),
  (10, 27, 7, (1, 175), (1, 176), (1, 6)),
  (10, 34, 0, (1, 206), (1, 207), (1, 7)),
  (10, 41, 1, (1, 237), (1, 238), (1, 8)),
  (10, 48, 2, (2, 33), (2, 34), (1, 9)),
  (10, 55, 6, (2, 62), (2, 63), (1, 10)),
  (10, 62, 5, (2, 89), (2, 90), (1, 11)),
  (10, 69, 4, (2, 118), (2, 119), (1, 12)),
  (12, 7, 10, (1, 20), (1, 21), (1, 1)),
  (12, 10, 11, (4, 219), (4, 220), (1, 13))]
def x_lcl : List (Nat × Nat × Int × (Nat × Nat)) := [(7, 79, 100001, (3, 118)),
  (7, 167, 100000, (3, 144)),
  (11, 79, 410881, (4, 225))]
def x_lll : List (Nat × Nat × Int × (Nat × Nat)) := [(0, 79, 1000000000, (3, 220)),
  (0, 81, -1000000000, (3, 221)),
  (11, 104, 255, (5, 150)),
  (11, 117, 7, (5, 153)),
  (11, 125, 40, (5, 149)),
  (11, 127, -9, (5, 151)),
  (11, 129, 9, (5, 152)),
  (11, 131, 100, (5, 154)),
  (11, 137, 6, (5, 166)),
  (11, 178, 32, (5, 215)),
  (11, 180, 96, (5, 216)),
  (11, 182, -1, (5, 217)),
  (11, 184, 1000000, (5, 218)),
  (11, 186, 10, (5, 219)),
  (11, 188, 48, (5, 220)),
  (11, 207, 20, (6, 64)),
  (11, 209, 23, (6, 65)),
  (11, 211, 24, (6, 66)),
  (11, 213, 26, (6, 67)),
  (11, 215, 247993, (6, 29)),
  (11, 221, 643248, (6, 30)),
  (11, 223, 408362632, (6, 31)),
  (11, 225, 370116, (6, 32)),
  (11, 227, 20436420, (6, 33)),
  (11, 229, 631284, (6, 34)),
  (11, 231, 394692, (6, 35)),
  (11, 252, 100000, (6, 36)),
  (11, 258, 14836, (6, 8)),
  (11, 273, 1476, (6, 72)),
  (11, 275, 498, (6, 73)),
  (11, 287, 12885268, (5, 229)),
  (11, 289, 21287301, (5, 234)),
  (11, 291, 3764, (5, 235)),
  (11, 302, 294, (6, 74)),
  (11, 317, -1000000000, (6, 107)),
  (11, 319, 1000000000, (6, 108)),
  (11, 343, 2, (6, 82)),
  (11, 371, 14, (6, 133)),
  (11, 419, 4, (7, 0))]
def x_lma : List (Nat × Nat × Nat × (Nat × Nat)) := [(2, 60, 0, (4, 51)),
  (2, 76, 2, (4, 53)),
  (4, 55, 0, (4, 155)),
  (4, 76, 1, (4, 168)),
  (5, 63, 2, (4, 127)),
  (5, 69, 1, (4, 128)),
  (6, 66, 2, (4, 106)),
  (7, 80, 0, (3, 119)),
  (8, 84, 0, (2, 211)),
  (10, 334, 0, (2, 217)),
  (10, 339, 1, (2, 218))]
def x_lol : List (Nat × Nat × (Nat × Nat)) := [(0, 3, (1, 211)),
  (1, 3, (2, 2)),
  (2, 3, (2, 38)),
  (3, 3, (1, 48)),
  (4, 3, (2, 123)),
  (5, 3, (2, 94)),
  (6, 3, (2, 67)),
  (7, 3, (1, 180)),
  (8, 3, (1, 33)),
  (9, 3, (1, 163)),
  (10, 1, (1, 25)),
  (11, 1, (4, 224))]
def x_lcp : List (Nat × Nat × (Nat × Nat)) := [(8, 90, (3, 184)),
  (10, 212, (4, 29))]
def x_lgl : List (Nat × Nat × Nat × (Nat × Nat)) := [(10, 112, 0, (3, 2)),
  (10, 115, 1, (3, 4)),
  (14, 38, 3, (3, 52)),
  (14, 1053, 4, (3, 68))]
def x_lsf : List (Nat × Nat × Nat × (Nat × Nat)) := [(14, 9, 0, (7, 37)),
  (14, 15, 1, (7, 38))]
def x_lcn : Nat × Nat × (Nat × Nat) := (8, 24, (1, 36))
def x_lan : Nat × Nat × (Nat × Nat) := (10, 7, (1, 28))
def x_lck : Nat × Nat × (Nat × Nat) := (8, 25, (1, 42))
theorem x_w_smin : Cond.static Lib.Math.min.name ∈ x_tbl := List.mem_filter.mpr ⟨x_pc_in 2 _ (List.mem_of_getElem? (i := 212) rfl), rfl⟩
theorem x_w_cmin : Cond.code Lib.Math.min.name Lib.Math.min.code 2 (some .int) ∈ x_tbl := List.mem_filter.mpr ⟨x_pc_in 2 _ (List.mem_of_getElem? (i := 213) rfl), rfl⟩
theorem x_w_smax : Cond.static Lib.Math.max.name ∈ x_tbl := List.mem_filter.mpr ⟨x_pc_in 2 _ (List.mem_of_getElem? (i := 219) rfl), rfl⟩
theorem x_w_cmax : Cond.code Lib.Math.max.name Lib.Math.max.code 2 (some .int) ∈ x_tbl := List.mem_filter.mpr ⟨x_pc_in 2 _ (List.mem_of_getElem? (i := 220) rfl), rfl⟩
theorem x_w_sabs : Cond.static Lib.Math.abs.name ∈ x_tbl := List.mem_filter.mpr ⟨x_pc_in 4 _ (List.mem_of_getElem? (i := 54) rfl), rfl⟩
theorem x_w_cabs : Cond.code Lib.Math.abs.name Lib.Math.abs.code 1 (some .int) ∈ x_tbl := List.mem_filter.mpr ⟨x_pc_in 4 _ (List.mem_of_getElem? (i := 55) rfl), rfl⟩
theorem x_w_mini : Cond.initialized "java/lang/Math" ∈ x_tbl := List.mem_filter.mpr ⟨x_pc_in 1 _ (List.mem_of_getElem? (i := 14) rfl), rfl⟩
theorem x_w_oii : Cond.instanceMethod Lib.objectInit ∈ x_tbl := List.mem_filter.mpr ⟨x_pc_in 1 _ (List.mem_of_getElem? (i := 26) rfl), rfl⟩
theorem x_w_oic : Cond.code Lib.objectInit ⟨#[0xb1]⟩ 1 none ∈ x_tbl := List.mem_filter.mpr ⟨x_pc_in 1 _ (List.mem_of_getElem? (i := 27) rfl), rfl⟩
theorem x_w_acn : Cond.native arraycopyName ∈ x_tbl := List.mem_filter.mpr ⟨x_pc_in 3 _ (List.mem_of_getElem? (i := 186) rfl), rfl⟩
theorem x_w_acs : Cond.static arraycopyName ∈ x_tbl := List.mem_filter.mpr ⟨x_pc_in 3 _ (List.mem_of_getElem? (i := 185) rfl), rfl⟩
theorem x_w_sys : Cond.initialized "java/lang/System" ∈ x_tbl := List.mem_filter.mpr ⟨x_pc_in 1 _ (List.mem_of_getElem? (i := 19) rfl), rfl⟩
theorem x_w_cln : Cond.native ⟨"java/lang/Object", "clone", "()Ljava/lang/Object;"⟩ ∈ x_tbl := List.mem_filter.mpr ⟨x_pc_in 1 _ (List.mem_of_getElem? (i := 38) rfl), rfl⟩
theorem x_w_cli : Cond.instanceMethod ⟨"java/lang/Object", "clone", "()Ljava/lang/Object;"⟩ ∈ x_tbl := List.mem_filter.mpr ⟨x_pc_in 1 _ (List.mem_of_getElem? (i := 39) rfl), rfl⟩
theorem x_w_cls : Cond.selects "[I" ⟨"[I", "clone", "()Ljava/lang/Object;"⟩ ⟨"java/lang/Object", "clone", "()Ljava/lang/Object;"⟩ ∈ x_tbl := List.mem_filter.mpr ⟨x_pc_in 1 _ (List.mem_of_getElem? (i := 40) rfl), rfl⟩
theorem x_w_clm : Cond.sameMethod "[I" "java/lang/Object" "clone" "()Ljava/lang/Object;" ∈ x_tbl := List.mem_filter.mpr ⟨x_pc_in 1 _ (List.mem_of_getElem? (i := 37) rfl), rfl⟩
theorem x_w_ai : Cond.arrayClass .int ∈ x_tbl := List.mem_filter.mpr ⟨x_pc_in 1 _ (List.mem_of_getElem? (i := 75) rfl), rfl⟩
theorem x_w_az : Cond.arrayClass .boolean ∈ x_tbl := List.mem_filter.mpr ⟨x_pc_in 2 _ (List.mem_of_getElem? (i := 117) rfl), rfl⟩
theorem x_w_al : Cond.arrayClass .long ∈ x_tbl := List.mem_filter.mpr ⟨x_pc_in 5 _ (List.mem_of_getElem? (i := 125) rfl), rfl⟩
end
section
/-! MICRO-OPS as data, and when one is right at a place -/
/-- what it does, two numbers, one more, its length -/
abbrev xI : Type := Nat × Nat × Int × Nat × Nat
def x_add : xF := fun pc L S h => match S with
  | .inl y :: .inl x :: S => xon (pc + 1) L (vI (x + y) :: S) h
  | _ => none
def x_sub : xF := fun pc L S h => match S with
  | .inl y :: .inl x :: S => xon (pc + 1) L (vI (x - y) :: S) h
  | _ => none
def x_mul : xF := fun pc L S h => match S with
  | .inl y :: .inl x :: S => xon (pc + 1) L (vI (x * y) :: S) h
  | _ => none
def x_addl : xF := fun pc L S h => match S with
  | .inr (.inl y) :: .inr (.inl x) :: S => xon (pc + 1) L (vL (x + y) :: S) h
  | _ => none
def x_subl : xF := fun pc L S h => match S with
  | .inr (.inl y) :: .inr (.inl x) :: S => xon (pc + 1) L (vL (x - y) :: S) h
  | _ => none
def x_mull : xF := fun pc L S h => match S with
  | .inr (.inl y) :: .inr (.inl x) :: S => xon (pc + 1) L (vL (x * y) :: S) h
  | _ => none
def x_stv : Nat → xV := fun a => match a with
  | 0 => vE 1
  | 1 => vE 2
  | 2 => vE 3
  | 3 => vI 1
  | _ => vE 4
def xop (q : xI) (X : xX) : xF := match q with
  | (0, _, b, _, n) => x_ic b n
  | (1, _, b, _, n) => x_lc b n
  | (2, a, _, _, n) => x_il a n
  | (3, a, _, _, n) => x_ll a n
  | (4, a, _, _, n) => x_al a n
  | (5, a, _, _, n) => x_is a n
  | (6, a, _, _, n) => x_ls a n
  | (7, a, _, _, n) => x_as a n
  | (8, a, b, _, n) => x_inc a b n
  | (9, _, _, _, _) => x_add
  | (10, _, _, _, _) => x_div
  | (11, _, _, _, _) => x_rem
  | (12, _, _, _, _) => x_neg
  | (13, _, _, _, _) => x_addl
  | (14, _, _, _, _) => x_ldiv
  | (15, _, _, _, _) => x_i2l
  | (16, _, _, _, _) => x_l2i
  | (17, _, _, _, _) => x_lcmp
  | (18, _, _, _, _) => x_i2c
  | (19, _, _, _, _) => x_dup
  | (20, _, _, _, _) => x_dup2
  | (21, _, _, _, _) => x_pop
  | (22, a, _, c, _) => x_if a c
  | (23, a, _, c, _) => x_cmp a c
  | (24, _, _, c, _) => x_goto c
  | (25, _, _, c, _) => x_nnul c
  | (26, a, b, _, _) => x_getf a b.toNat
  | (27, a, b, c, _) => x_putf a b.toNat (c % 8)
  | (28, a, _, _, _) => x_ref (x_stv a) 3
  | (29, a, _, _, _) => x_ald a X
  | (30, a, _, _, _) => x_ast a
  | (31, _, _, _, _) => x_alen X
  | (32, a, _, _, _) => x_newa a
  | (33, _, _, _, _) => x_anew
  | (34, a, _, _, _) => x_new a (x_dft a)
  | (35, a, b, _, _) => x_call a (x_na a) (xrk b.toNat (x_ow a))
  | (36, a, _, _, _) => x_ret a
  | (37, a, _, _, _) => x_sw (x_swt a).1 (x_swt a).2.1 (x_swt a).2.2
  | (38, a, _, _, _) => x_lsw (x_lst a).1 (x_lst a).2
  | (39, _, _, _, _) => x_copy
  | (40, _, _, _, _) => x_clone X
  | (41, _, _, _, _) => x_cast
  | (42, a, _, _, _) => x_ref (vS a) 2
  | (43, _, _, _, _) => x_oin
  | (44, a, _, _, _) => x_gets a
  | (45, _, _, _, _) => x_min
  | (46, _, _, _, _) => x_max
  | (47, _, _, _, _) => x_abs
  | (50, _, _, _, _) => x_sub
  | (51, _, _, _, _) => x_mul
  | (52, _, _, _, _) => x_bin xband
  | (53, _, _, _, _) => x_bin xbor
  | (54, _, _, _, _) => x_bin xshl
  | (55, _, _, _, _) => x_bin xshr
  | (56, _, _, _, _) => x_bin xushr
  | (57, _, _, _, _) => x_subl
  | (58, _, _, _, _) => x_mull
  | _ => fun _ _ _ _ => none
/-- cells never go -/
def xgr (F : xF) : Prop := ∀ pc L S h pc' L' S' h', F pc L S h = some (.inl (pc', L', S', h')) → h.2.1 ≤ h'.2.1 ∧ h.2.2 ≤ h'.2.2
theorem xgr_on {pc : Nat} {L S : List xV} {h h0 : xH} {pc' : Nat} {L' S' : List xV} {h' : xH} (e : xon pc L S h = some (.inl (pc', L', S', h'))) (h1 : h0.2.1 ≤ h.2.1 ∧ h0.2.2 ≤ h.2.2) : h0.2.1 ≤ h'.2.1 ∧ h0.2.2 ≤ h'.2.2 := by
  cases e
  exact h1
theorem xgr_same (h : xH) : h.2.1 ≤ h.2.1 ∧ h.2.2 ≤ h.2.2 := ⟨Nat.le_refl _, Nat.le_refl _⟩
theorem xgr_set (h : xH) (k : Nat) (c : xC) : h.2.1 ≤ (xset h k c).2.1 ∧ h.2.2 ≤ (xset h k c).2.2 := ⟨Nat.le_refl _, Nat.le_refl _⟩
theorem xgr_new (h : xH) (c : xC) (sz : Nat) : h.2.1 ≤ (xnew h c sz).2.1 ∧ h.2.2 ≤ (xnew h c sz).2.2 := ⟨Nat.le_succ _, Nat.le_add_right _ _⟩
theorem xw_gr_ic (b : Int) (n : Nat) : xgr (x_ic b n) := by
  intro pc L S h pc' L' S' h' e
  unfold x_ic at e
  repeat' split at e
  all_goals first | exact xgr_on e (xgr_same h) | exact xgr_on e (xgr_set h _ _) | exact xgr_on e (xgr_new h _ _) | cases e
theorem xw_gr_lc (b : Int) (n : Nat) : xgr (x_lc b n) := by
  intro pc L S h pc' L' S' h' e
  unfold x_lc at e
  repeat' split at e
  all_goals first | exact xgr_on e (xgr_same h) | exact xgr_on e (xgr_set h _ _) | exact xgr_on e (xgr_new h _ _) | cases e
theorem xw_gr_il (a : Nat) (n : Nat) : xgr (x_il a n) := by
  intro pc L S h pc' L' S' h' e
  unfold x_il at e
  repeat' split at e
  all_goals first | exact xgr_on e (xgr_same h) | exact xgr_on e (xgr_set h _ _) | exact xgr_on e (xgr_new h _ _) | cases e
theorem xw_gr_ll (a : Nat) (n : Nat) : xgr (x_ll a n) := by
  intro pc L S h pc' L' S' h' e
  unfold x_ll at e
  repeat' split at e
  all_goals first | exact xgr_on e (xgr_same h) | exact xgr_on e (xgr_set h _ _) | exact xgr_on e (xgr_new h _ _) | cases e
theorem xw_gr_al (a : Nat) (n : Nat) : xgr (x_al a n) := by
  intro pc L S h pc' L' S' h' e
  unfold x_al at e
  repeat' split at e
  all_goals first | exact xgr_on e (xgr_same h) | exact xgr_on e (xgr_set h _ _) | exact xgr_on e (xgr_new h _ _) | cases e
theorem xw_gr_is (a : Nat) (n : Nat) : xgr (x_is a n) := by
  intro pc L S h pc' L' S' h' e
  unfold x_is at e
  repeat' split at e
  all_goals first | exact xgr_on e (xgr_same h) | exact xgr_on e (xgr_set h _ _) | exact xgr_on e (xgr_new h _ _) | cases e
theorem xw_gr_ls (a : Nat) (n : Nat) : xgr (x_ls a n) := by
  intro pc L S h pc' L' S' h' e
  unfold x_ls at e
  repeat' split at e
  all_goals first | exact xgr_on e (xgr_same h) | exact xgr_on e (xgr_set h _ _) | exact xgr_on e (xgr_new h _ _) | cases e
theorem xw_gr_as (a : Nat) (n : Nat) : xgr (x_as a n) := by
  intro pc L S h pc' L' S' h' e
  unfold x_as at e
  repeat' split at e
  all_goals first | exact xgr_on e (xgr_same h) | exact xgr_on e (xgr_set h _ _) | exact xgr_on e (xgr_new h _ _) | cases e
theorem xw_gr_inc (a : Nat) (b : Int) (n : Nat) : xgr (x_inc a b n) := by
  intro pc L S h pc' L' S' h' e
  unfold x_inc at e
  repeat' split at e
  all_goals first | exact xgr_on e (xgr_same h) | exact xgr_on e (xgr_set h _ _) | exact xgr_on e (xgr_new h _ _) | cases e
theorem xw_gr_add  : xgr (x_add) := by
  intro pc L S h pc' L' S' h' e
  unfold x_add at e
  repeat' split at e
  all_goals first | exact xgr_on e (xgr_same h) | exact xgr_on e (xgr_set h _ _) | exact xgr_on e (xgr_new h _ _) | cases e
theorem xw_gr_sub  : xgr (x_sub) := by
  intro pc L S h pc' L' S' h' e
  unfold x_sub at e
  repeat' split at e
  all_goals first | exact xgr_on e (xgr_same h) | exact xgr_on e (xgr_set h _ _) | exact xgr_on e (xgr_new h _ _) | cases e
theorem xw_gr_mul  : xgr (x_mul) := by
  intro pc L S h pc' L' S' h' e
  unfold x_mul at e
  repeat' split at e
  all_goals first | exact xgr_on e (xgr_same h) | exact xgr_on e (xgr_set h _ _) | exact xgr_on e (xgr_new h _ _) | cases e
theorem xw_gr_addl  : xgr (x_addl) := by
  intro pc L S h pc' L' S' h' e
  unfold x_addl at e
  repeat' split at e
  all_goals first | exact xgr_on e (xgr_same h) | exact xgr_on e (xgr_set h _ _) | exact xgr_on e (xgr_new h _ _) | cases e
theorem xw_gr_subl  : xgr (x_subl) := by
  intro pc L S h pc' L' S' h' e
  unfold x_subl at e
  repeat' split at e
  all_goals first | exact xgr_on e (xgr_same h) | exact xgr_on e (xgr_set h _ _) | exact xgr_on e (xgr_new h _ _) | cases e
theorem xw_gr_mull  : xgr (x_mull) := by
  intro pc L S h pc' L' S' h' e
  unfold x_mull at e
  repeat' split at e
  all_goals first | exact xgr_on e (xgr_same h) | exact xgr_on e (xgr_set h _ _) | exact xgr_on e (xgr_new h _ _) | cases e
theorem xw_gr_div  : xgr (x_div) := by
  intro pc L S h pc' L' S' h' e
  unfold x_div at e
  repeat' split at e
  all_goals first | exact xgr_on e (xgr_same h) | exact xgr_on e (xgr_set h _ _) | exact xgr_on e (xgr_new h _ _) | cases e
theorem xw_gr_rem  : xgr (x_rem) := by
  intro pc L S h pc' L' S' h' e
  unfold x_rem at e
  repeat' split at e
  all_goals first | exact xgr_on e (xgr_same h) | exact xgr_on e (xgr_set h _ _) | exact xgr_on e (xgr_new h _ _) | cases e
theorem xw_gr_neg  : xgr (x_neg) := by
  intro pc L S h pc' L' S' h' e
  unfold x_neg at e
  repeat' split at e
  all_goals first | exact xgr_on e (xgr_same h) | exact xgr_on e (xgr_set h _ _) | exact xgr_on e (xgr_new h _ _) | cases e
theorem xw_gr_ldiv  : xgr (x_ldiv) := by
  intro pc L S h pc' L' S' h' e
  unfold x_ldiv at e
  repeat' split at e
  all_goals first | exact xgr_on e (xgr_same h) | exact xgr_on e (xgr_set h _ _) | exact xgr_on e (xgr_new h _ _) | cases e
theorem xw_gr_i2l  : xgr (x_i2l) := by
  intro pc L S h pc' L' S' h' e
  unfold x_i2l at e
  repeat' split at e
  all_goals first | exact xgr_on e (xgr_same h) | exact xgr_on e (xgr_set h _ _) | exact xgr_on e (xgr_new h _ _) | cases e
theorem xw_gr_l2i  : xgr (x_l2i) := by
  intro pc L S h pc' L' S' h' e
  unfold x_l2i at e
  repeat' split at e
  all_goals first | exact xgr_on e (xgr_same h) | exact xgr_on e (xgr_set h _ _) | exact xgr_on e (xgr_new h _ _) | cases e
theorem xw_gr_lcmp  : xgr (x_lcmp) := by
  intro pc L S h pc' L' S' h' e
  unfold x_lcmp at e
  repeat' split at e
  all_goals first | exact xgr_on e (xgr_same h) | exact xgr_on e (xgr_set h _ _) | exact xgr_on e (xgr_new h _ _) | cases e
theorem xw_gr_i2c  : xgr (x_i2c) := by
  intro pc L S h pc' L' S' h' e
  unfold x_i2c at e
  repeat' split at e
  all_goals first | exact xgr_on e (xgr_same h) | exact xgr_on e (xgr_set h _ _) | exact xgr_on e (xgr_new h _ _) | cases e
theorem xw_gr_dup  : xgr (x_dup) := by
  intro pc L S h pc' L' S' h' e
  unfold x_dup at e
  repeat' split at e
  all_goals first | exact xgr_on e (xgr_same h) | exact xgr_on e (xgr_set h _ _) | exact xgr_on e (xgr_new h _ _) | cases e
theorem xw_gr_dup2  : xgr (x_dup2) := by
  intro pc L S h pc' L' S' h' e
  unfold x_dup2 at e
  repeat' split at e
  all_goals first | exact xgr_on e (xgr_same h) | exact xgr_on e (xgr_set h _ _) | exact xgr_on e (xgr_new h _ _) | cases e
theorem xw_gr_pop  : xgr (x_pop) := by
  intro pc L S h pc' L' S' h' e
  unfold x_pop at e
  repeat' split at e
  all_goals first | exact xgr_on e (xgr_same h) | exact xgr_on e (xgr_set h _ _) | exact xgr_on e (xgr_new h _ _) | cases e
theorem xw_gr_if (a : Nat) (t : Nat) : xgr (x_if a t) := by
  intro pc L S h pc' L' S' h' e
  unfold x_if at e
  repeat' split at e
  all_goals first | exact xgr_on e (xgr_same h) | exact xgr_on e (xgr_set h _ _) | exact xgr_on e (xgr_new h _ _) | cases e
theorem xw_gr_cmp (a : Nat) (t : Nat) : xgr (x_cmp a t) := by
  intro pc L S h pc' L' S' h' e
  unfold x_cmp at e
  repeat' split at e
  all_goals first | exact xgr_on e (xgr_same h) | exact xgr_on e (xgr_set h _ _) | exact xgr_on e (xgr_new h _ _) | cases e
theorem xw_gr_goto (t : Nat) : xgr (x_goto t) := by
  intro pc L S h pc' L' S' h' e
  unfold x_goto at e
  repeat' split at e
  all_goals first | exact xgr_on e (xgr_same h) | exact xgr_on e (xgr_set h _ _) | exact xgr_on e (xgr_new h _ _) | cases e
theorem xw_gr_nnul (t : Nat) : xgr (x_nnul t) := by
  intro pc L S h pc' L' S' h' e
  unfold x_nnul at e
  repeat' split at e
  all_goals first | exact xgr_on e (xgr_same h) | exact xgr_on e (xgr_set h _ _) | exact xgr_on e (xgr_new h _ _) | cases e
theorem xw_gr_getf (a : Nat) (k : Nat) : xgr (x_getf a k) := by
  intro pc L S h pc' L' S' h' e
  unfold x_getf at e
  repeat' split at e
  all_goals first | exact xgr_on e (xgr_same h) | exact xgr_on e (xgr_set h _ _) | exact xgr_on e (xgr_new h _ _) | cases e
theorem xw_gr_putf (a : Nat) (k : Nat) (n : Nat) : xgr (x_putf a k n) := by
  intro pc L S h pc' L' S' h' e
  unfold x_putf at e
  repeat' split at e
  all_goals first | exact xgr_on e (xgr_same h) | exact xgr_on e (xgr_set h _ _) | exact xgr_on e (xgr_new h _ _) | cases e
theorem xw_gr_ref (v : xV) (n : Nat) : xgr (x_ref v n) := by
  intro pc L S h pc' L' S' h' e
  unfold x_ref at e
  repeat' split at e
  all_goals first | exact xgr_on e (xgr_same h) | exact xgr_on e (xgr_set h _ _) | exact xgr_on e (xgr_new h _ _) | cases e
theorem xw_gr_ald (a : Nat) (X : xX) : xgr (x_ald a X) := by
  intro pc L S h pc' L' S' h' e
  unfold x_ald at e
  repeat' split at e
  all_goals first | exact xgr_on e (xgr_same h) | exact xgr_on e (xgr_set h _ _) | exact xgr_on e (xgr_new h _ _) | cases e
theorem xw_gr_ast (a : Nat) : xgr (x_ast a) := by
  intro pc L S h pc' L' S' h' e
  unfold x_ast at e
  repeat' split at e
  all_goals first | exact xgr_on e (xgr_same h) | exact xgr_on e (xgr_set h _ _) | exact xgr_on e (xgr_new h _ _) | cases e
theorem xw_gr_alen (X : xX) : xgr (x_alen X) := by
  intro pc L S h pc' L' S' h' e
  unfold x_alen at e
  repeat' split at e
  all_goals first | exact xgr_on e (xgr_same h) | exact xgr_on e (xgr_set h _ _) | exact xgr_on e (xgr_new h _ _) | cases e
theorem xw_gr_newa (a : Nat) : xgr (x_newa a) := by
  intro pc L S h pc' L' S' h' e
  unfold x_newa at e
  repeat' split at e
  all_goals first | exact xgr_on e (xgr_same h) | exact xgr_on e (xgr_set h _ _) | exact xgr_on e (xgr_new h _ _) | cases e
theorem xw_gr_anew  : xgr (x_anew) := by
  intro pc L S h pc' L' S' h' e
  unfold x_anew at e
  repeat' split at e
  all_goals first | exact xgr_on e (xgr_same h) | exact xgr_on e (xgr_set h _ _) | exact xgr_on e (xgr_new h _ _) | cases e
theorem xw_gr_new (a : Nat) (fs : List xV) : xgr (x_new a fs) := by
  intro pc L S h pc' L' S' h' e
  unfold x_new at e
  repeat' split at e
  all_goals first | exact xgr_on e (xgr_same h) | exact xgr_on e (xgr_set h _ _) | exact xgr_on e (xgr_new h _ _) | cases e
theorem xw_gr_call (a : Nat) (n : Nat) (ok : xH → List xV → Bool) : xgr (x_call a n ok) := by
  intro pc L S h pc' L' S' h' e
  unfold x_call at e
  repeat' split at e
  all_goals first | exact xgr_on e (xgr_same h) | exact xgr_on e (xgr_set h _ _) | exact xgr_on e (xgr_new h _ _) | cases e
theorem xw_gr_ret (a : Nat) : xgr (x_ret a) := by
  intro pc L S h pc' L' S' h' e
  unfold x_ret at e
  repeat' split at e
  all_goals first | exact xgr_on e (xgr_same h) | exact xgr_on e (xgr_set h _ _) | exact xgr_on e (xgr_new h _ _) | cases e
theorem xw_gr_sw (b : Int) (ts : List Nat) (t : Nat) : xgr (x_sw b ts t) := by
  intro pc L S h pc' L' S' h' e
  unfold x_sw at e
  repeat' split at e
  all_goals first | exact xgr_on e (xgr_same h) | exact xgr_on e (xgr_set h _ _) | exact xgr_on e (xgr_new h _ _) | cases e
theorem xw_gr_lsw (ps : List (Int × Nat)) (t : Nat) : xgr (x_lsw ps t) := by
  intro pc L S h pc' L' S' h' e
  unfold x_lsw at e
  repeat' split at e
  all_goals first | exact xgr_on e (xgr_same h) | exact xgr_on e (xgr_set h _ _) | exact xgr_on e (xgr_new h _ _) | cases e
theorem xw_gr_copy  : xgr (x_copy) := by
  intro pc L S h pc' L' S' h' e
  unfold x_copy at e
  repeat' split at e
  all_goals first | exact xgr_on e (xgr_same h) | exact xgr_on e (xgr_set h _ _) | exact xgr_on e (xgr_new h _ _) | cases e
theorem xw_gr_clone (X : xX) : xgr (x_clone X) := by
  intro pc L S h pc' L' S' h' e
  unfold x_clone at e
  repeat' split at e
  all_goals first | exact xgr_on e (xgr_same h) | exact xgr_on e (xgr_set h _ _) | exact xgr_on e (xgr_new h _ _) | cases e
theorem xw_gr_cast  : xgr (x_cast) := by
  intro pc L S h pc' L' S' h' e
  unfold x_cast at e
  repeat' split at e
  all_goals first | exact xgr_on e (xgr_same h) | exact xgr_on e (xgr_set h _ _) | exact xgr_on e (xgr_new h _ _) | cases e
theorem xw_gr_oin  : xgr (x_oin) := by
  intro pc L S h pc' L' S' h' e
  unfold x_oin at e
  repeat' split at e
  all_goals first | exact xgr_on e (xgr_same h) | exact xgr_on e (xgr_set h _ _) | exact xgr_on e (xgr_new h _ _) | cases e
theorem xw_gr_gets (a : Nat) : xgr (x_gets a) := by
  intro pc L S h pc' L' S' h' e
  unfold x_gets at e
  repeat' split at e
  all_goals first | exact xgr_on e (xgr_same h) | exact xgr_on e (xgr_set h _ _) | exact xgr_on e (xgr_new h _ _) | cases e
theorem xw_gr_min  : xgr (x_min) := by
  intro pc L S h pc' L' S' h' e
  unfold x_min at e
  repeat' split at e
  all_goals first | exact xgr_on e (xgr_same h) | exact xgr_on e (xgr_set h _ _) | exact xgr_on e (xgr_new h _ _) | cases e
theorem xw_gr_max  : xgr (x_max) := by
  intro pc L S h pc' L' S' h' e
  unfold x_max at e
  repeat' split at e
  all_goals first | exact xgr_on e (xgr_same h) | exact xgr_on e (xgr_set h _ _) | exact xgr_on e (xgr_new h _ _) | cases e
theorem xw_gr_abs  : xgr (x_abs) := by
  intro pc L S h pc' L' S' h' e
  unfold x_abs at e
  repeat' split at e
  all_goals first | exact xgr_on e (xgr_same h) | exact xgr_on e (xgr_set h _ _) | exact xgr_on e (xgr_new h _ _) | cases e
theorem xw_gr_bin (g : Int → Int → Int) : xgr (x_bin g) := by
  intro pc L S h pc' L' S' h' e
  unfold x_bin at e
  repeat' split at e
  all_goals first | exact xgr_on e (xgr_same h) | exact xgr_on e (xgr_set h _ _) | exact xgr_on e (xgr_new h _ _) | cases e
theorem xop_gr (q : xI) (X : xX) : xgr (xop q X) := by
  obtain ⟨t, a, b, c, n⟩ := q
  match t with
  | 0 => exact xw_gr_ic b n
  | 1 => exact xw_gr_lc b n
  | 2 => exact xw_gr_il a n
  | 3 => exact xw_gr_ll a n
  | 4 => exact xw_gr_al a n
  | 5 => exact xw_gr_is a n
  | 6 => exact xw_gr_ls a n
  | 7 => exact xw_gr_as a n
  | 8 => exact xw_gr_inc a b n
  | 9 => exact xw_gr_add
  | 10 => exact xw_gr_div
  | 11 => exact xw_gr_rem
  | 12 => exact xw_gr_neg
  | 13 => exact xw_gr_addl
  | 14 => exact xw_gr_ldiv
  | 15 => exact xw_gr_i2l
  | 16 => exact xw_gr_l2i
  | 17 => exact xw_gr_lcmp
  | 18 => exact xw_gr_i2c
  | 19 => exact xw_gr_dup
  | 20 => exact xw_gr_dup2
  | 21 => exact xw_gr_pop
  | 22 => exact xw_gr_if a c
  | 23 => exact xw_gr_cmp a c
  | 24 => exact xw_gr_goto c
  | 25 => exact xw_gr_nnul c
  | 26 => exact xw_gr_getf a _
  | 27 => exact xw_gr_putf a _ _
  | 28 => exact xw_gr_ref _ _
  | 29 => exact xw_gr_ald a X
  | 30 => exact xw_gr_ast a
  | 31 => exact xw_gr_alen X
  | 32 => exact xw_gr_newa a
  | 33 => exact xw_gr_anew
  | 34 => exact xw_gr_new a _
  | 35 => exact xw_gr_call a _ _
  | 36 => exact xw_gr_ret a
  | 37 => exact xw_gr_sw _ _ _
  | 38 => exact xw_gr_lsw _ _
  | 39 => exact xw_gr_copy
  | 40 => exact xw_gr_clone X
  | 41 => exact xw_gr_cast
  | 42 => exact xw_gr_ref _ _
  | 43 => exact xw_gr_oin
  | 44 => exact xw_gr_gets a
  | 45 => exact xw_gr_min
  | 46 => exact xw_gr_max
  | 47 => exact xw_gr_abs
  | 50 => exact xw_gr_sub
  | 51 => exact xw_gr_mul
  | 52 => exact xw_gr_bin _
  | 53 => exact xw_gr_bin _
  | 54 => exact xw_gr_bin _
  | 55 => exact xw_gr_bin _
  | 56 => exact xw_gr_bin _
  | 57 => exact xw_gr_subl
  | 58 => exact xw_gr_mull
  | 48 => intro pc L S h pc' L' S' h' e; cases e
  | 49 => intro pc L S h pc' L' S' h' e; cases e
  | t + 59 => intro pc L S h pc' L' S' h' e; cases e
end
section
/-! WHEN A MICRO-OP IS RIGHT: checked by the kernel, once -/
def okd (mi pc : Nat) (I : Instr) (n : Nat) : Bool := decide (decode (x_cc mi) pc = .ok (I, n))
def x_flok (t : Nat × Nat × Nat × Nat × (Nat × Nat)) : Bool := match x_cls[t.2.2.1]? with
  | some q => decide (t.2.2.2.1 < q.2.2) && x_at t.2.2.2.2 (Cond.fieldLink (x_on t.1) t.2.1 (q.2.1 t.2.2.2.1).1 (q.2.1 t.2.2.2.1).2.1 (q.2.1 t.2.2.2.1).2.2.1)
  | none => false
def x_mkok (t : Nat × Nat × Nat × Nat × (Nat × Nat) × (Nat × Nat) × (Nat × Nat)) : Bool :=
  decide (t.2.2.1 < x_cnt) && match t.2.2.2.1 with
  | 0 => decide (x_na t.2.2.1 = x_np t.2.2.1) && (x_at t.2.2.2.2.1 (Cond.methodLink (x_on t.1) t.2.1 (x_nm t.2.2.1)) && x_at t.2.2.2.2.2.1 (Cond.static (x_nm t.2.2.1)))
  | 1 => decide (x_na t.2.2.1 = x_np t.2.2.1) && (decide (x_nm t.2.2.1 = ⟨"FilmPrinter", (x_nm t.2.2.1).name, "(III)I"⟩) && (decide ((x_on t.1, t.2.1, (x_nm t.2.2.1).name) ∈ [("FilmPrinter$Asker", 54, "nearest"), ("FilmPrinter$Edition", 63, "turnAfter"), ("FilmPrinter$Edition", 73, "nearest"), ("FilmPrinter$Explainer", 80, "turnAfter"), ("FilmPrinter$State", 99, "nearest")]) && x_at t.2.2.2.2.2.1 (Cond.static (x_nm t.2.2.1))))
  | 2 => decide (x_na t.2.2.1 = x_np t.2.2.1 + 1) && (match x_cls[x_ow t.2.2.1]? with
    | some q => decide ((x_nm t.2.2.1).cls = q.1) && (x_at t.2.2.2.2.1 (Cond.methodLink (x_on t.1) t.2.1 (x_nm t.2.2.1)) && (x_at t.2.2.2.2.2.1 (Cond.instanceMethod (x_nm t.2.2.1)) && x_at t.2.2.2.2.2.2 (Cond.selects q.1 (x_nm t.2.2.1) (x_nm t.2.2.1))))
    | none => false)
  | 3 => decide (x_na t.2.2.1 = x_np t.2.2.1 + 1) && (decide (x_rt t.2.2.1 = none) && (decide ((x_nm t.2.2.1).name = "<init>") && (x_at t.2.2.2.2.1 (Cond.methodLink (x_on t.1) t.2.1 (x_nm t.2.2.1)) && x_at t.2.2.2.2.2.1 (Cond.instanceMethod (x_nm t.2.2.1)))))
  | 4 => decide (x_na t.2.2.1 = x_np t.2.2.1 + 1) && (decide ((x_nm t.2.2.1).cls = "java/lang/String") && (x_at t.2.2.2.2.1 (Cond.methodLink (x_on t.1) t.2.1 (x_nm t.2.2.1)) && (x_at t.2.2.2.2.2.1 (Cond.instanceMethod (x_nm t.2.2.1)) && x_at t.2.2.2.2.2.2 (Cond.selects "java/lang/String" (x_nm t.2.2.1) (x_nm t.2.2.1)))))
  | _ => false
def x_nwok (t : Nat × Nat × Nat × (Nat × Nat) × (Nat × Nat) × (Nat × Nat)) : Bool := match x_cls[t.2.2.1]? with
  | some q => decide ((x_dft t.2.2.1).length = q.2.2) && ((List.range q.2.2).all (fun k => match parseFieldDescriptor (q.2.1 k).2.2.1 with
      | some ty => xdfok ty && decide ((x_dft t.2.2.1)[k]? = some (xdf ty))
      | none => false) && (x_at t.2.2.2.1 (Cond.classLink (x_on t.1) t.2.1 q.1) && (x_at t.2.2.2.2.1 (Cond.instantiable q.1 q.2.2) && x_at t.2.2.2.2.2 (Cond.initialized q.1))))
  | none => false
theorem x_lfl_ok : x_lfl.all x_flok = true := by decide +kernel
theorem x_lmk_ok : x_lmk.all x_mkok = true := by decide +kernel
theorem x_lnw_ok : x_lnw.all x_nwok = true := by decide +kernel
theorem x_lcl_ok : x_lcl.all (fun t => x_at t.2.2.2 (Cond.constant (x_on t.1) t.2.1 (Int32.ofInt t.2.2.1))) = true := by decide +kernel
theorem x_lll_ok : x_lll.all (fun t => x_at t.2.2.2 (Cond.constantLong (x_on t.1) t.2.1 (Int64.ofInt t.2.2.1))) = true := by decide +kernel
def x_man : Nat → MethodName := fun k => match k with
  | 0 => Lib.Math.min.name
  | 1 => Lib.Math.max.name
  | _ => Lib.Math.abs.name
theorem x_lma_ok : x_lma.all (fun t => x_at t.2.2.2 (Cond.methodLink (x_on t.1) t.2.1 (x_man t.2.2.1))) = true := by decide +kernel
theorem x_lol_ok : x_lol.all (fun t => x_at t.2.2 (Cond.methodLink (x_on t.1) t.2.1 Lib.objectInit)) = true := by decide +kernel
theorem x_lcp_ok : x_lcp.all (fun t => x_at t.2.2 (Cond.methodLink (x_on t.1) t.2.1 arraycopyName)) = true := by decide +kernel
def x_gln : Nat → String × String × String := fun k => match k with
  | 0 => ("FilmPrinter", "LOWEST_TERM", "[I")
  | 1 => ("FilmPrinter", "HIGHEST_TERM", "[I")
  | 3 => ("java/lang/String", "COMPACT_STRINGS", "Z")
  | _ => ("jdk/internal/util/Preconditions", "SIOOBE_FORMATTER", "Ljava/util/function/BiFunction;")
theorem x_lgl_ok : x_lgl.all (fun t => x_at t.2.2.2 (Cond.fieldLink (x_on t.1) t.2.1 (x_gln t.2.2.1).1 (x_gln t.2.2.1).2.1 (x_gln t.2.2.1).2.2)) = true := by decide +kernel
def x_sfn : Nat → String × String := fun k => match k with
  | 0 => ("value", "[B")
  | _ => ("coder", "B")
theorem x_lsf_ok : x_lsf.all (fun t => x_at t.2.2.2 (Cond.fieldLink (x_on t.1) t.2.1 "java/lang/String" (x_sfn t.2.2.1).1 (x_sfn t.2.2.1).2)) = true := by decide +kernel
theorem x_lcn_ok : x_at x_lcn.2.2 (Cond.methodLink (x_on x_lcn.1) x_lcn.2.1 ⟨"[I", "clone", "()Ljava/lang/Object;"⟩) = true := by decide +kernel
theorem x_lan_ok : x_at x_lan.2.2 (Cond.classLink (x_on x_lan.1) x_lan.2.1 "FilmPrinter$State") = true := by decide +kernel
theorem x_lck_ok : x_at x_lck.2.2 (Cond.classLink (x_on x_lck.1) x_lck.2.1 "[I") = true := by decide +kernel
end
