/-! WORDS OF THE START by their places: texts, nest mates, statics -/
def x_wstr (j : Nat) : Cond := .stringRef "FilmPrinter$Reader" (x_sidx j) (x_stxt j)
theorem x_h_str0 : x_wstr 0 ∈ lw_tbl := x_pc_in 3 _ (List.mem_of_getElem? (i := 40) rfl)
theorem x_h_str1 : x_wstr 1 ∈ lw_tbl := x_pc_in 3 _ (List.mem_of_getElem? (i := 92) rfl)
theorem x_h_str2 : x_wstr 2 ∈ lw_tbl := x_pc_in 3 _ (List.mem_of_getElem? (i := 93) rfl)
theorem x_h_str3 : x_wstr 3 ∈ lw_tbl := x_pc_in 3 _ (List.mem_of_getElem? (i := 94) rfl)
theorem x_h_str4 : x_wstr 4 ∈ lw_tbl := x_pc_in 3 _ (List.mem_of_getElem? (i := 95) rfl)
theorem x_h_str5 : x_wstr 5 ∈ lw_tbl := x_pc_in 3 _ (List.mem_of_getElem? (i := 96) rfl)
theorem x_h_str6 : x_wstr 6 ∈ lw_tbl := x_pc_in 3 _ (List.mem_of_getElem? (i := 97) rfl)
theorem x_h_str7 : x_wstr 7 ∈ lw_tbl := x_pc_in 3 _ (List.mem_of_getElem? (i := 105) rfl)
theorem x_h_str8 : x_wstr 8 ∈ lw_tbl := x_pc_in 3 _ (List.mem_of_getElem? (i := 106) rfl)
theorem x_h_str9 : x_wstr 9 ∈ lw_tbl := x_pc_in 3 _ (List.mem_of_getElem? (i := 107) rfl)
theorem x_h_str10 : x_wstr 10 ∈ lw_tbl := x_pc_in 3 _ (List.mem_of_getElem? (i := 108) rfl)
theorem x_h_str11 : x_wstr 11 ∈ lw_tbl := x_pc_in 3 _ (List.mem_of_getElem? (i := 109) rfl)
theorem x_h_str12 : x_wstr 12 ∈ lw_tbl := x_pc_in 3 _ (List.mem_of_getElem? (i := 110) rfl)
theorem x_h_str13 : x_wstr 13 ∈ lw_tbl := x_pc_in 3 _ (List.mem_of_getElem? (i := 111) rfl)
theorem x_h_nst0 : (Cond.methodLinkNest "FilmPrinter$Asker" 54 ⟨"FilmPrinter", "nearest", "(III)I"⟩ "FilmPrinter") ∈ lw_tbl := x_pc_in 3 _ (List.mem_of_getElem? (i := 222) rfl)
theorem x_h_nst1 : (Cond.methodLinkNest "FilmPrinter$Edition" 63 ⟨"FilmPrinter", "turnAfter", "(III)I"⟩ "FilmPrinter") ∈ lw_tbl := x_pc_in 4 _ (List.mem_of_getElem? (i := 17) rfl)
theorem x_h_nst2 : (Cond.methodLinkNest "FilmPrinter$Edition" 73 ⟨"FilmPrinter", "nearest", "(III)I"⟩ "FilmPrinter") ∈ lw_tbl := x_pc_in 4 _ (List.mem_of_getElem? (i := 24) rfl)
theorem x_h_nst3 : (Cond.methodLinkNest "FilmPrinter$Explainer" 80 ⟨"FilmPrinter", "turnAfter", "(III)I"⟩ "FilmPrinter") ∈ lw_tbl := x_pc_in 4 _ (List.mem_of_getElem? (i := 64) rfl)
theorem x_h_nst4 : (Cond.methodLinkNest "FilmPrinter$State" 99 ⟨"FilmPrinter", "nearest", "(III)I"⟩ "FilmPrinter") ∈ lw_tbl := x_pc_in 2 _ (List.mem_of_getElem? (i := 214) rfl)
theorem x_h_fln : (Cond.fieldLinkNest "FilmPrinter$State" 21 "FilmPrinter" "FIRST_TERM" "[I" "FilmPrinter") ∈ lw_tbl := x_pc_in 1 _ (List.mem_of_getElem? (i := 34) rfl)
theorem x_h_cst : (Cond.castable "[I" "java/lang/Cloneable") ∈ lw_tbl := x_pc_in 1 _ (List.mem_of_getElem? (i := 41) rfl)
theorem x_h_ov : (Cond.arrayOver (.object "FilmPrinter$State")) ∈ lw_tbl := x_pc_in 1 _ (List.mem_of_getElem? (i := 157) rfl)
theorem x_h_ls_low : (Cond.laysStatic "FilmPrinter" "LOWEST_TERM" "[I") ∈ lw_tbl := x_pc_in 3 _ (List.mem_of_getElem? (i := 3) rfl)
theorem x_h_ls_high : (Cond.laysStatic "FilmPrinter" "HIGHEST_TERM" "[I") ∈ lw_tbl := x_pc_in 3 _ (List.mem_of_getElem? (i := 5) rfl)
theorem x_h_ls_first : (Cond.laysStatic "FilmPrinter" "FIRST_TERM" "[I") ∈ lw_tbl := x_pc_in 1 _ (List.mem_of_getElem? (i := 35) rfl)
theorem x_h_ls_cs : (Cond.laysStatic "java/lang/String" "COMPACT_STRINGS" "Z") ∈ lw_tbl := x_pc_in 3 _ (List.mem_of_getElem? (i := 53) rfl)
theorem x_h_ls_fm : (Cond.laysStatic "jdk/internal/util/Preconditions" "SIOOBE_FORMATTER" "Ljava/util/function/BiFunction;") ∈ lw_tbl := x_pc_in 3 _ (List.mem_of_getElem? (i := 69) rfl)
theorem x_h_in_fp : (Cond.initialized "FilmPrinter") ∈ lw_tbl := x_pc_in 1 _ (List.mem_of_getElem? (i := 1) rfl)
theorem x_h_in_str : (Cond.initialized "java/lang/String") ∈ lw_tbl := x_pc_in 1 _ (List.mem_of_getElem? (i := 15) rfl)
theorem x_h_in_pre : (Cond.initialized "jdk/internal/util/Preconditions") ∈ lw_tbl := x_pc_in 1 _ (List.mem_of_getElem? (i := 17) rfl)
theorem x_h_ins0 : (Cond.instantiable R_Asker 6) ∈ lw_tbl := x_pc_in 1 _ (List.mem_of_getElem? (i := 207) rfl)
theorem x_h_ins1 : (Cond.instantiable R_Edition 6) ∈ lw_tbl := x_pc_in 1 _ (List.mem_of_getElem? (i := 238) rfl)
theorem x_h_ins2 : (Cond.instantiable R_Explainer 6) ∈ lw_tbl := x_pc_in 2 _ (List.mem_of_getElem? (i := 34) rfl)
theorem x_h_ins3 : (Cond.instantiable R_Law 6) ∈ lw_tbl := x_pc_in 1 _ (List.mem_of_getElem? (i := 44) rfl)
theorem x_h_ins4 : (Cond.instantiable R_Maker 8) ∈ lw_tbl := x_pc_in 2 _ (List.mem_of_getElem? (i := 119) rfl)
theorem x_h_ins5 : (Cond.instantiable R_Matcher 6) ∈ lw_tbl := x_pc_in 2 _ (List.mem_of_getElem? (i := 90) rfl)
theorem x_h_ins6 : (Cond.instantiable R_Projector 5) ∈ lw_tbl := x_pc_in 2 _ (List.mem_of_getElem? (i := 63) rfl)
theorem x_h_ins7 : (Cond.instantiable R_Reader 7) ∈ lw_tbl := x_pc_in 1 _ (List.mem_of_getElem? (i := 176) rfl)
theorem x_h_ins8 : (Cond.instantiable R_State 15) ∈ lw_tbl := x_pc_in 1 _ (List.mem_of_getElem? (i := 29) rfl)
theorem x_h_ins9 : (Cond.instantiable R_Tape 2) ∈ lw_tbl := x_pc_in 1 _ (List.mem_of_getElem? (i := 159) rfl)
theorem x_h_ins10 : (Cond.instantiable R_Fp 12) ∈ lw_tbl := x_pc_in 1 _ (List.mem_of_getElem? (i := 21) rfl)
theorem x_h_ins11 : (Cond.instantiable R_Mod 46) ∈ lw_tbl := x_pc_in 4 _ (List.mem_of_getElem? (i := 220) rfl)
theorem x_h_ai : (Cond.arrayClass .int) ∈ lw_tbl := x_pc_in 1 _ (List.mem_of_getElem? (i := 75) rfl)
theorem x_h_az : (Cond.arrayClass .boolean) ∈ lw_tbl := x_pc_in 2 _ (List.mem_of_getElem? (i := 117) rfl)
theorem x_h_al : (Cond.arrayClass .long) ∈ lw_tbl := x_pc_in 5 _ (List.mem_of_getElem? (i := 125) rfl)
def x_nar : List Cond := flatC (Jvm.Cond.and given_1 narrow_1)
def x_stm (j : Nat) : Term := .string "FilmPrinter$Reader" (x_sidx j)
def x_slen : List Nat := [4, 4, 6, 4, 5, 4, 4, 5, 5, 3, 2, 2, 3, 3]
def x_sbyt : List (List Int32) := [[103, 114, 101, 121], [115, 116, 101, 112], [108, 101, 110, 103, 116, 104], [107, 105, 110, 100], [115, 111, 117, 110, 100], [115, 104, 111, 116], [108, 97, 110, 100], [108, 105, 103, 104, 116], [116, 105, 116, 108, 101], [99, 117, 116], [105, 102], [111, 114], [97, 110, 100], [110, 111, 116]]
def x_sval (j : Nat) : Term := .field (x_stm j) "java/lang/String" "value" "[B"
def x_wS (j : Nat) : List Cond := [.exactly (x_stm j) "java/lang/String", .eq (.field (x_stm j) "java/lang/String" "coder" "B") (.int 0), .arrayOf (x_sval j) .byte, .eq (.length (x_sval j)) (.int (Int32.ofNat (x_slen.getD j 0)))] ++ (List.range (x_slen.getD j 0)).map (fun i => .eq (.elem (x_sval j) (.int (Int32.ofNat i))) (.int ((x_sbyt.getD j []).getD i 0)))
theorem x_nS0 : ∀ w ∈ x_wS 0, w ∈ x_nar := by decide +kernel
theorem x_nS1 : ∀ w ∈ x_wS 1, w ∈ x_nar := by decide +kernel
theorem x_nS2 : ∀ w ∈ x_wS 2, w ∈ x_nar := by decide +kernel
theorem x_nS3 : ∀ w ∈ x_wS 3, w ∈ x_nar := by decide +kernel
theorem x_nS4 : ∀ w ∈ x_wS 4, w ∈ x_nar := by decide +kernel
theorem x_nS5 : ∀ w ∈ x_wS 5, w ∈ x_nar := by decide +kernel
theorem x_nS6 : ∀ w ∈ x_wS 6, w ∈ x_nar := by decide +kernel
theorem x_nS7 : ∀ w ∈ x_wS 7, w ∈ x_nar := by decide +kernel
theorem x_nS8 : ∀ w ∈ x_wS 8, w ∈ x_nar := by decide +kernel
theorem x_nS9 : ∀ w ∈ x_wS 9, w ∈ x_nar := by decide +kernel
theorem x_nS10 : ∀ w ∈ x_wS 10, w ∈ x_nar := by decide +kernel
theorem x_nS11 : ∀ w ∈ x_wS 11, w ∈ x_nar := by decide +kernel
theorem x_nS12 : ∀ w ∈ x_wS 12, w ∈ x_nar := by decide +kernel
theorem x_nS13 : ∀ w ∈ x_wS 13, w ∈ x_nar := by decide +kernel
def x_low : List Int32 := [0, 0, 1, 1, 0, 0, 0]
def x_high : List Int32 := [20, 50, 100, 2000, 40, 200, 100]
def x_first : List Int32 := [4, 3, 5, 500, 20, 10, 10]
def x_wA (f : String) (v : List Int32) : List Cond := [.arrayOf (.static "FilmPrinter" f "[I") .int, .eq (.length (.static "FilmPrinter" f "[I")) (.int 7)] ++ (List.range 7).map (fun i => .eq (.elem (.static "FilmPrinter" f "[I") (.int (Int32.ofNat i))) (.int (v.getD i 0)))
theorem x_nA_low : ∀ w ∈ x_wA "LOWEST_TERM" x_low, w ∈ x_nar := by decide +kernel
theorem x_nA_high : ∀ w ∈ x_wA "HIGHEST_TERM" x_high, w ∈ x_nar := by decide +kernel
theorem x_nA_first : ∀ w ∈ x_wA "FIRST_TERM" x_first, w ∈ x_nar := by decide +kernel
theorem x_nC : ∀ w ∈ ([.eq (.static "java/lang/String" "COMPACT_STRINGS" "Z") (.int 1), .isRef (.static "jdk/internal/util/Preconditions" "SIOOBE_FORMATTER" "Ljava/util/function/BiFunction;")] : List Cond), w ∈ x_nar := by decide +kernel
