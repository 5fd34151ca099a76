-- the classes: names, fields in the order of the slots (declaring class, name, descriptor, final), their types
def x_tbl : List Cond := lw_tbl.filter goodWord
def R_Asker : String := "FilmPrinter$Asker"
def F_Asker : u_T := fun k => match k with
  | 0 => ("FilmPrinter$Asker", "stack", "[I", true)
  | 1 => ("FilmPrinter$Asker", "traits", "[I", true)
  | 2 => ("FilmPrinter$Asker", "top", "I", false)
  | 3 => ("FilmPrinter$Asker", "light", "I", false)
  | 4 => ("FilmPrinter$Asker", "title", "I", false)
  | _ => ("FilmPrinter$Asker", "cut", "Z", false)
def t_Asker : Nat → FieldType := fun k => match k with
  | 0 => .array .int
  | 1 => .array .int
  | 2 => .int
  | 3 => .int
  | 4 => .int
  | _ => .boolean
theorem n_Asker : ∀ a, a < 6 → ∀ b, b < 6 → a ≠ b → (F_Asker a).2.1 ≠ (F_Asker b).2.1 := by decide +kernel
theorem t_Asker_ok : ∀ k, k < 6 → parseFieldDescriptor (F_Asker k).2.2.1 = some (t_Asker k) := by decide +kernel
theorem i_Asker : ∀ w ∈ u_ws R_Asker F_Asker 6, w ∈ lw_tbl := by decide +kernel
theorem g_Asker : ∀ w ∈ u_ws R_Asker F_Asker 6, goodWord w = true := by decide +kernel
def R_Edition : String := "FilmPrinter$Edition"
def F_Edition : u_T := fun k => match k with
  | 0 => ("FilmPrinter$Edition", "placeCount", "I", false)
  | 1 => ("FilmPrinter$Edition", "keptCount", "I", false)
  | 2 => ("FilmPrinter$Edition", "shotAt", "[I", true)
  | 3 => ("FilmPrinter$Edition", "frameAt", "[I", true)
  | 4 => ("FilmPrinter$Edition", "partAt", "[I", true)
  | _ => ("FilmPrinter$Edition", "lights", "[I", true)
def t_Edition : Nat → FieldType := fun k => match k with
  | 0 => .int
  | 1 => .int
  | 2 => .array .int
  | 3 => .array .int
  | 4 => .array .int
  | _ => .array .int
theorem n_Edition : ∀ a, a < 6 → ∀ b, b < 6 → a ≠ b → (F_Edition a).2.1 ≠ (F_Edition b).2.1 := by decide +kernel
theorem t_Edition_ok : ∀ k, k < 6 → parseFieldDescriptor (F_Edition k).2.2.1 = some (t_Edition k) := by decide +kernel
theorem i_Edition : ∀ w ∈ u_ws R_Edition F_Edition 6, w ∈ lw_tbl := by decide +kernel
theorem g_Edition : ∀ w ∈ u_ws R_Edition F_Edition 6, goodWord w = true := by decide +kernel
def R_Explainer : String := "FilmPrinter$Explainer"
def F_Explainer : u_T := fun k => match k with
  | 0 => ("FilmPrinter$Explainer", "apart", "[I", true)
  | 1 => ("FilmPrinter$Explainer", "least", "[I", true)
  | 2 => ("FilmPrinter$Explainer", "way", "[I", true)
  | 3 => ("FilmPrinter$Explainer", "cost", "I", false)
  | 4 => ("FilmPrinter$Explainer", "failCount", "I", false)
  | _ => ("FilmPrinter$Explainer", "apartCount", "I", false)
def t_Explainer : Nat → FieldType := fun k => match k with
  | 0 => .array .int
  | 1 => .array .int
  | 2 => .array .int
  | 3 => .int
  | 4 => .int
  | _ => .int
theorem n_Explainer : ∀ a, a < 6 → ∀ b, b < 6 → a ≠ b → (F_Explainer a).2.1 ≠ (F_Explainer b).2.1 := by decide +kernel
theorem t_Explainer_ok : ∀ k, k < 6 → parseFieldDescriptor (F_Explainer k).2.2.1 = some (t_Explainer k) := by decide +kernel
theorem i_Explainer : ∀ w ∈ u_ws R_Explainer F_Explainer 6, w ∈ lw_tbl := by decide +kernel
theorem g_Explainer : ∀ w ∈ u_ws R_Explainer F_Explainer 6, goodWord w = true := by decide +kernel
def R_Law : String := "FilmPrinter$Law"
def F_Law : u_T := fun k => match k with
  | 0 => ("FilmPrinter$Law", "clauseCount", "I", false)
  | 1 => ("FilmPrinter$Law", "codeLength", "I", false)
  | 2 => ("FilmPrinter$Law", "heads", "[I", true)
  | 3 => ("FilmPrinter$Law", "starts", "[I", true)
  | 4 => ("FilmPrinter$Law", "steps", "[I", true)
  | _ => ("FilmPrinter$Law", "values", "[I", true)
def t_Law : Nat → FieldType := fun k => match k with
  | 0 => .int
  | 1 => .int
  | 2 => .array .int
  | 3 => .array .int
  | 4 => .array .int
  | _ => .array .int
theorem n_Law : ∀ a, a < 6 → ∀ b, b < 6 → a ≠ b → (F_Law a).2.1 ≠ (F_Law b).2.1 := by decide +kernel
theorem t_Law_ok : ∀ k, k < 6 → parseFieldDescriptor (F_Law k).2.2.1 = some (t_Law k) := by decide +kernel
theorem i_Law : ∀ w ∈ u_ws R_Law F_Law 6, w ∈ lw_tbl := by decide +kernel
theorem g_Law : ∀ w ∈ u_ws R_Law F_Law 6, goodWord w = true := by decide +kernel
def R_Maker : String := "FilmPrinter$Maker"
def F_Maker : u_T := fun k => match k with
  | 0 => ("FilmPrinter$Maker", "leastBehind0", "[I", true)
  | 1 => ("FilmPrinter$Maker", "leastBehind1", "[I", true)
  | 2 => ("FilmPrinter$Maker", "taken", "[I", true)
  | 3 => ("FilmPrinter$Maker", "cost", "I", false)
  | 4 => ("FilmPrinter$Maker", "seamCount", "I", false)
  | 5 => ("FilmPrinter$Maker", "missingCount", "I", false)
  | 6 => ("FilmPrinter$Maker", "longestMissing", "I", false)
  | _ => ("FilmPrinter$Maker", "olderCount", "I", false)
def t_Maker : Nat → FieldType := fun k => match k with
  | 0 => .array .int
  | 1 => .array .int
  | 2 => .array .int
  | 3 => .int
  | 4 => .int
  | 5 => .int
  | 6 => .int
  | _ => .int
theorem n_Maker : ∀ a, a < 8 → ∀ b, b < 8 → a ≠ b → (F_Maker a).2.1 ≠ (F_Maker b).2.1 := by decide +kernel
theorem t_Maker_ok : ∀ k, k < 8 → parseFieldDescriptor (F_Maker k).2.2.1 = some (t_Maker k) := by decide +kernel
theorem i_Maker : ∀ w ∈ u_ws R_Maker F_Maker 8, w ∈ lw_tbl := by decide +kernel
theorem g_Maker : ∀ w ∈ u_ws R_Maker F_Maker 8, goodWord w = true := by decide +kernel
def R_Matcher : String := "FilmPrinter$Matcher"
def F_Matcher : u_T := fun k => match k with
  | 0 => ("FilmPrinter$Matcher", "frameOf", "[I", true)
  | 1 => ("FilmPrinter$Matcher", "scratchOf", "[I", true)
  | 2 => ("FilmPrinter$Matcher", "matchedCounts", "[I", true)
  | 3 => ("FilmPrinter$Matcher", "fresh", "[Z", true)
  | 4 => ("FilmPrinter$Matcher", "most", "[I", true)
  | _ => ("FilmPrinter$Matcher", "worthwhile", "[I", true)
def t_Matcher : Nat → FieldType := fun k => match k with
  | 0 => .array .int
  | 1 => .array .int
  | 2 => .array .int
  | 3 => .array .boolean
  | 4 => .array .int
  | _ => .array .int
theorem n_Matcher : ∀ a, a < 6 → ∀ b, b < 6 → a ≠ b → (F_Matcher a).2.1 ≠ (F_Matcher b).2.1 := by decide +kernel
theorem t_Matcher_ok : ∀ k, k < 6 → parseFieldDescriptor (F_Matcher k).2.2.1 = some (t_Matcher k) := by decide +kernel
theorem i_Matcher : ∀ w ∈ u_ws R_Matcher F_Matcher 6, w ∈ lw_tbl := by decide +kernel
theorem g_Matcher : ∀ w ∈ u_ws R_Matcher F_Matcher 6, goodWord w = true := by decide +kernel
def R_Projector : String := "FilmPrinter$Projector"
def F_Projector : u_T := fun k => match k with
  | 0 => ("FilmPrinter$Projector", "jumps", "[I", true)
  | 1 => ("FilmPrinter$Projector", "jumpCount", "I", false)
  | 2 => ("FilmPrinter$Projector", "offCount", "I", false)
  | 3 => ("FilmPrinter$Projector", "joinCount", "I", false)
  | _ => ("FilmPrinter$Projector", "loudCount", "I", false)
def t_Projector : Nat → FieldType := fun k => match k with
  | 0 => .array .int
  | 1 => .int
  | 2 => .int
  | 3 => .int
  | _ => .int
theorem n_Projector : ∀ a, a < 5 → ∀ b, b < 5 → a ≠ b → (F_Projector a).2.1 ≠ (F_Projector b).2.1 := by decide +kernel
theorem t_Projector_ok : ∀ k, k < 5 → parseFieldDescriptor (F_Projector k).2.2.1 = some (t_Projector k) := by decide +kernel
theorem i_Projector : ∀ w ∈ u_ws R_Projector F_Projector 5, w ∈ lw_tbl := by decide +kernel
theorem g_Projector : ∀ w ∈ u_ws R_Projector F_Projector 5, goodWord w = true := by decide +kernel
def R_Reader : String := "FilmPrinter$Reader"
def F_Reader : u_T := fun k => match k with
  | 0 => ("FilmPrinter$Reader", "draft", "LFilmPrinter$Law;", true)
  | 1 => ("FilmPrinter$Reader", "kinds", "[I", true)
  | 2 => ("FilmPrinter$Reader", "values", "[I", true)
  | 3 => ("FilmPrinter$Reader", "places", "[I", true)
  | 4 => ("FilmPrinter$Reader", "tokenCount", "I", false)
  | 5 => ("FilmPrinter$Reader", "next", "I", false)
  | _ => ("FilmPrinter$Reader", "partCount", "I", false)
def t_Reader : Nat → FieldType := fun k => match k with
  | 0 => .object "FilmPrinter$Law"
  | 1 => .array .int
  | 2 => .array .int
  | 3 => .array .int
  | 4 => .int
  | 5 => .int
  | _ => .int
theorem n_Reader : ∀ a, a < 7 → ∀ b, b < 7 → a ≠ b → (F_Reader a).2.1 ≠ (F_Reader b).2.1 := by decide +kernel
theorem t_Reader_ok : ∀ k, k < 7 → parseFieldDescriptor (F_Reader k).2.2.1 = some (t_Reader k) := by decide +kernel
theorem i_Reader : ∀ w ∈ u_ws R_Reader F_Reader 7, w ∈ lw_tbl := by decide +kernel
theorem g_Reader : ∀ w ∈ u_ws R_Reader F_Reader 7, goodWord w = true := by decide +kernel
def R_State : String := "FilmPrinter$State"
def F_State : u_T := fun k => match k with
  | 0 => ("FilmPrinter$State", "shotCount", "I", false)
  | 1 => ("FilmPrinter$State", "frameCount", "I", false)
  | 2 => ("FilmPrinter$State", "seenCount", "I", false)
  | 3 => ("FilmPrinter$State", "shots", "[I", true)
  | 4 => ("FilmPrinter$State", "frameGreys", "[I", true)
  | 5 => ("FilmPrinter$State", "frameShots", "[I", true)
  | 6 => ("FilmPrinter$State", "terms", "[I", true)
  | 7 => ("FilmPrinter$State", "law", "LFilmPrinter$Law;", true)
  | 8 => ("FilmPrinter$State", "fails", "[I", true)
  | 9 => ("FilmPrinter$State", "seen", "[I", true)
  | 10 => ("FilmPrinter$State", "copyCounts", "[I", true)
  | 11 => ("FilmPrinter$State", "copyGreys", "[I", true)
  | 12 => ("FilmPrinter$State", "copyScratches", "[I", true)
  | 13 => ("FilmPrinter$State", "pairCounts", "[I", true)
  | _ => ("FilmPrinter$State", "rights", "[I", true)
def t_State : Nat → FieldType := fun k => match k with
  | 0 => .int
  | 1 => .int
  | 2 => .int
  | 3 => .array .int
  | 4 => .array .int
  | 5 => .array .int
  | 6 => .array .int
  | 7 => .object "FilmPrinter$Law"
  | 8 => .array .int
  | 9 => .array .int
  | 10 => .array .int
  | 11 => .array .int
  | 12 => .array .int
  | 13 => .array .int
  | _ => .array .int
theorem n_State : ∀ a, a < 15 → ∀ b, b < 15 → a ≠ b → (F_State a).2.1 ≠ (F_State b).2.1 := by decide +kernel
theorem t_State_ok : ∀ k, k < 15 → parseFieldDescriptor (F_State k).2.2.1 = some (t_State k) := by decide +kernel
theorem i_State : ∀ w ∈ u_ws R_State F_State 15, w ∈ lw_tbl := by decide +kernel
theorem g_State : ∀ w ∈ u_ws R_State F_State 15, goodWord w = true := by decide +kernel
def R_Tape : String := "FilmPrinter$Tape"
def F_Tape : u_T := fun k => match k with
  | 0 => ("FilmPrinter$Tape", "bytes", "[I", true)
  | _ => ("FilmPrinter$Tape", "length", "I", false)
def t_Tape : Nat → FieldType := fun k => match k with
  | 0 => .array .int
  | _ => .int
theorem n_Tape : ∀ a, a < 2 → ∀ b, b < 2 → a ≠ b → (F_Tape a).2.1 ≠ (F_Tape b).2.1 := by decide +kernel
theorem t_Tape_ok : ∀ k, k < 2 → parseFieldDescriptor (F_Tape k).2.2.1 = some (t_Tape k) := by decide +kernel
theorem i_Tape : ∀ w ∈ u_ws R_Tape F_Tape 2, w ∈ lw_tbl := by decide +kernel
theorem g_Tape : ∀ w ∈ u_ws R_Tape F_Tape 2, goodWord w = true := by decide +kernel
def R_Fp : String := "FilmPrinter"
def F_Fp : u_T := fun k => match k with
  | 0 => ("FilmPrinter", "now", "LFilmPrinter$State;", true)
  | 1 => ("FilmPrinter", "images", "[LFilmPrinter$State;", true)
  | 2 => ("FilmPrinter", "tape", "LFilmPrinter$Tape;", true)
  | 3 => ("FilmPrinter", "reader", "LFilmPrinter$Reader;", true)
  | 4 => ("FilmPrinter", "asker", "LFilmPrinter$Asker;", true)
  | 5 => ("FilmPrinter", "film", "LFilmPrinter$Edition;", true)
  | 6 => ("FilmPrinter", "explainer", "LFilmPrinter$Explainer;", true)
  | 7 => ("FilmPrinter", "projector", "LFilmPrinter$Projector;", true)
  | 8 => ("FilmPrinter", "matcher", "LFilmPrinter$Matcher;", true)
  | 9 => ("FilmPrinter", "maker", "LFilmPrinter$Maker;", true)
  | 10 => ("FilmPrinter", "faultPlace", "I", false)
  | _ => ("FilmPrinter", "refusedBy", "I", false)
def t_Fp : Nat → FieldType := fun k => match k with
  | 0 => .object "FilmPrinter$State"
  | 1 => .array (.object "FilmPrinter$State")
  | 2 => .object "FilmPrinter$Tape"
  | 3 => .object "FilmPrinter$Reader"
  | 4 => .object "FilmPrinter$Asker"
  | 5 => .object "FilmPrinter$Edition"
  | 6 => .object "FilmPrinter$Explainer"
  | 7 => .object "FilmPrinter$Projector"
  | 8 => .object "FilmPrinter$Matcher"
  | 9 => .object "FilmPrinter$Maker"
  | 10 => .int
  | _ => .int
theorem n_Fp : ∀ a, a < 12 → ∀ b, b < 12 → a ≠ b → (F_Fp a).2.1 ≠ (F_Fp b).2.1 := by decide +kernel
theorem t_Fp_ok : ∀ k, k < 12 → parseFieldDescriptor (F_Fp k).2.2.1 = some (t_Fp k) := by decide +kernel
theorem i_Fp : ∀ w ∈ u_ws R_Fp F_Fp 12, w ∈ lw_tbl := by decide +kernel
theorem g_Fp : ∀ w ∈ u_ws R_Fp F_Fp 12, goodWord w = true := by decide +kernel
def R_Mod : String := "FilmPrinterModel"
def F_Mod : u_T := fun k => match k with
  | 0 => ("FilmPrinterModel", "thrown", "I", false)
  | 1 => ("FilmPrinterModel", "status", "I", false)
  | 2 => ("FilmPrinterModel", "row", "[I", true)
  | 3 => ("FilmPrinterModel", "images", "[I", true)
  | 4 => ("FilmPrinterModel", "isKept", "[Z", true)
  | 5 => ("FilmPrinterModel", "tape", "[I", true)
  | 6 => ("FilmPrinterModel", "taped", "I", false)
  | 7 => ("FilmPrinterModel", "from", "I", false)
  | 8 => ("FilmPrinterModel", "to", "I", false)
  | 9 => ("FilmPrinterModel", "sort", "I", false)
  | 10 => ("FilmPrinterModel", "worth", "J", false)
  | 11 => ("FilmPrinterModel", "fault", "I", false)
  | 12 => ("FilmPrinterModel", "bad", "Z", false)
  | 13 => ("FilmPrinterModel", "nClauses", "I", false)
  | 14 => ("FilmPrinterModel", "nClause", "[I", true)
  | 15 => ("FilmPrinterModel", "nCode", "I", false)
  | 16 => ("FilmPrinterModel", "nOp", "[I", true)
  | 17 => ("FilmPrinterModel", "nArg", "[I", true)
  | 18 => ("FilmPrinterModel", "nLeaves", "I", false)
  | 19 => ("FilmPrinterModel", "pile", "[I", true)
  | 20 => ("FilmPrinterModel", "pileAt", "[I", true)
  | 21 => ("FilmPrinterModel", "piled", "I", false)
  | 22 => ("FilmPrinterModel", "opened", "I", false)
  | 23 => ("FilmPrinterModel", "set", "[J", true)
  | 24 => ("FilmPrinterModel", "rest", "[J", true)
  | 25 => ("FilmPrinterModel", "broken", "Z", false)
  | 26 => ("FilmPrinterModel", "value", "J", false)
  | 27 => ("FilmPrinterModel", "sum", "J", false)
  | 28 => ("FilmPrinterModel", "places", "I", false)
  | 29 => ("FilmPrinterModel", "parts", "I", false)
  | 30 => ("FilmPrinterModel", "partOf", "[I", true)
  | 31 => ("FilmPrinterModel", "frameOf", "[I", true)
  | 32 => ("FilmPrinterModel", "shotOf", "[I", true)
  | 33 => ("FilmPrinterModel", "lights", "[I", true)
  | 34 => ("FilmPrinterModel", "begins", "[I", true)
  | 35 => ("FilmPrinterModel", "aparts", "[I", true)
  | 36 => ("FilmPrinterModel", "costs", "[I", true)
  | 37 => ("FilmPrinterModel", "fails", "[I", true)
  | 38 => ("FilmPrinterModel", "hows", "[I", true)
  | 39 => ("FilmPrinterModel", "isFound", "[Z", true)
  | 40 => ("FilmPrinterModel", "follow", "[I", true)
  | 41 => ("FilmPrinterModel", "matches", "[I", true)
  | 42 => ("FilmPrinterModel", "copied", "[I", true)
  | 43 => ("FilmPrinterModel", "greys", "[I", true)
  | 44 => ("FilmPrinterModel", "ahead", "[I", true)
  | _ => ("FilmPrinterModel", "taken", "[I", true)
def t_Mod : Nat → FieldType := fun k => match k with
  | 0 => .int
  | 1 => .int
  | 2 => .array .int
  | 3 => .array .int
  | 4 => .array .boolean
  | 5 => .array .int
  | 6 => .int
  | 7 => .int
  | 8 => .int
  | 9 => .int
  | 10 => .long
  | 11 => .int
  | 12 => .boolean
  | 13 => .int
  | 14 => .array .int
  | 15 => .int
  | 16 => .array .int
  | 17 => .array .int
  | 18 => .int
  | 19 => .array .int
  | 20 => .array .int
  | 21 => .int
  | 22 => .int
  | 23 => .array .long
  | 24 => .array .long
  | 25 => .boolean
  | 26 => .long
  | 27 => .long
  | 28 => .int
  | 29 => .int
  | 30 => .array .int
  | 31 => .array .int
  | 32 => .array .int
  | 33 => .array .int
  | 34 => .array .int
  | 35 => .array .int
  | 36 => .array .int
  | 37 => .array .int
  | 38 => .array .int
  | 39 => .array .boolean
  | 40 => .array .int
  | 41 => .array .int
  | 42 => .array .int
  | 43 => .array .int
  | 44 => .array .int
  | _ => .array .int
theorem n_Mod : ∀ a, a < 46 → ∀ b, b < 46 → a ≠ b → (F_Mod a).2.1 ≠ (F_Mod b).2.1 := by decide +kernel
theorem t_Mod_ok : ∀ k, k < 46 → parseFieldDescriptor (F_Mod k).2.2.1 = some (t_Mod k) := by decide +kernel
theorem i_Mod : ∀ w ∈ u_ws R_Mod F_Mod 46, w ∈ lw_tbl := by decide +kernel
theorem g_Mod : ∀ w ∈ u_ws R_Mod F_Mod 46, goodWord w = true := by decide +kernel
abbrev x_cls : List vw_C := [(R_Asker, F_Asker, 6), (R_Edition, F_Edition, 6), (R_Explainer, F_Explainer, 6), (R_Law, F_Law, 6), (R_Maker, F_Maker, 8), (R_Matcher, F_Matcher, 6), (R_Projector, F_Projector, 5), (R_Reader, F_Reader, 7), (R_State, F_State, 15), (R_Tape, F_Tape, 2), (R_Fp, F_Fp, 12), (R_Mod, F_Mod, 46)]
/-- what a class number stands for -/
theorem x_cls_ok : ∀ (ci : Nat) (q : vw_C), x_cls[ci]? = some q → (∀ w ∈ u_ws q.1 q.2.1 q.2.2, w ∈ x_tbl) ∧ (∃ ty : Nat → FieldType, ∀ k, k < q.2.2 → parseFieldDescriptor (q.2.1 k).2.2.1 = some (ty k)) ∧ ∀ a, a < q.2.2 → ∀ b, b < q.2.2 → a ≠ b → (q.2.1 a).2.1 ≠ (q.2.1 b).2.1 := by
  intro ci q hq
  match ci, hq with
  | 0, hq => cases hq; exact ⟨fun w h => List.mem_filter.mpr ⟨i_Asker w h, g_Asker w h⟩, ⟨t_Asker, t_Asker_ok⟩, n_Asker⟩
  | 1, hq => cases hq; exact ⟨fun w h => List.mem_filter.mpr ⟨i_Edition w h, g_Edition w h⟩, ⟨t_Edition, t_Edition_ok⟩, n_Edition⟩
  | 2, hq => cases hq; exact ⟨fun w h => List.mem_filter.mpr ⟨i_Explainer w h, g_Explainer w h⟩, ⟨t_Explainer, t_Explainer_ok⟩, n_Explainer⟩
  | 3, hq => cases hq; exact ⟨fun w h => List.mem_filter.mpr ⟨i_Law w h, g_Law w h⟩, ⟨t_Law, t_Law_ok⟩, n_Law⟩
  | 4, hq => cases hq; exact ⟨fun w h => List.mem_filter.mpr ⟨i_Maker w h, g_Maker w h⟩, ⟨t_Maker, t_Maker_ok⟩, n_Maker⟩
  | 5, hq => cases hq; exact ⟨fun w h => List.mem_filter.mpr ⟨i_Matcher w h, g_Matcher w h⟩, ⟨t_Matcher, t_Matcher_ok⟩, n_Matcher⟩
  | 6, hq => cases hq; exact ⟨fun w h => List.mem_filter.mpr ⟨i_Projector w h, g_Projector w h⟩, ⟨t_Projector, t_Projector_ok⟩, n_Projector⟩
  | 7, hq => cases hq; exact ⟨fun w h => List.mem_filter.mpr ⟨i_Reader w h, g_Reader w h⟩, ⟨t_Reader, t_Reader_ok⟩, n_Reader⟩
  | 8, hq => cases hq; exact ⟨fun w h => List.mem_filter.mpr ⟨i_State w h, g_State w h⟩, ⟨t_State, t_State_ok⟩, n_State⟩
  | 9, hq => cases hq; exact ⟨fun w h => List.mem_filter.mpr ⟨i_Tape w h, g_Tape w h⟩, ⟨t_Tape, t_Tape_ok⟩, n_Tape⟩
  | 10, hq => cases hq; exact ⟨fun w h => List.mem_filter.mpr ⟨i_Fp w h, g_Fp w h⟩, ⟨t_Fp, t_Fp_ok⟩, n_Fp⟩
  | 11, hq => cases hq; exact ⟨fun w h => List.mem_filter.mpr ⟨i_Mod w h, g_Mod w h⟩, ⟨t_Mod, t_Mod_ok⟩, n_Mod⟩
  | k + 12, hq => simp [x_cls] at hq
