/-! SOUNDNESS, its words -/
/-- texts of the reader: pool places -/
def x_sidx : Nat → Nat := fun j => [92, 98, 100, 101, 103, 105, 107, 109, 111, 113, 115, 117, 119, 121].getD j 0
def x_stxt : Nat → String := fun j => ["grey", "step", "length", "kind", "sound", "shot", "land", "light", "title", "cut", "if", "or", "and", "not"].getD j ""
/-- a class of another name that is an array of int too, with a method clone of its own, which answers a new array of seven zeros -/
def y_Rog : MethodName := ⟨"[R", "clone", "()Ljava/lang/Object;"⟩
def b_Rog : ByteArray := ⟨#[0x10, 0x07, 0xbc, 0x0a, 0xb0]⟩
def x_rw : List Cond := [.code y_Rog b_Rog 1 (some (.object "java/lang/Object")), .initialized "[R", .selects "[R" ⟨"[I", "clone", "()Ljava/lang/Object;"⟩ y_Rog, .instanceMethod y_Rog]
def xRog (G : xG) (U : State) (H : Heap) : Prop := ∃ a, G.ea 3 = some a ∧ va_O "[R" a (xA G) U H ∧ ∀ w ∈ x_rw, va_Nw w U
/-- what holds of what lies outside -/
def xE (G : xG) (U : State) (H : Heap) : Prop :=
  (∀ j, (G.X j).1 = 0 → ∃ a, G.ea j = some a ∧ va_T .int a (G.X j).2.1 (fun i => .int (Int32.ofInt ((G.X j).2.2 i))) (xA G) U H) ∧
  (∀ j, (G.X j).1 = 3 → ∃ a, G.ea j = some a ∧ va_T .byte a (G.X j).2.1 (fun i => .int (Int32.ofInt ((G.X j).2.2 i))) (xA G) U H) ∧
  va_Z "FilmPrinter" "LOWEST_TERM" "[I" (va_rf (G.ea 1)) (xA G) U H ∧ va_Z "FilmPrinter" "HIGHEST_TERM" "[I" (va_rf (G.ea 2)) (xA G) U H ∧ va_Z "FilmPrinter" "FIRST_TERM" "[I" (va_rf (G.ea 3)) (xA G) U H ∧
  va_Z "java/lang/String" "COMPACT_STRINGS" "Z" (.int 1) (xA G) U H ∧ va_Z "jdk/internal/util/Preconditions" "SIOOBE_FORMATTER" "Ljava/util/function/BiFunction;" (va_rf (G.ea 4)) (xA G) U H ∧
  (∀ j, j < 14 → va_O "java/lang/String" (G.sa j) (xA G) U H ∧ va_OF "java/lang/String" "value" "[B" (va_rf (G.ea (j + 5))) (G.sa j) (xA G) U H ∧ va_OF "java/lang/String" "coder" "B" (.int 0) (G.sa j) (xA G) U H ∧ vk_R "FilmPrinter$Reader" (x_sidx j) (x_stxt j) (G.sa j) U) ∧
  (va_Nw (.fieldLinkNest "FilmPrinter$State" 21 "FilmPrinter" "FIRST_TERM" "[I" "FilmPrinter") U ∧ (∀ q ∈ [("FilmPrinter$Asker", 54, "nearest"), ("FilmPrinter$Edition", 63, "turnAfter"), ("FilmPrinter$Edition", 73, "nearest"), ("FilmPrinter$Explainer", 80, "turnAfter"), ("FilmPrinter$State", 99, "nearest")], va_Nw (.methodLinkNest q.1 q.2.1 ⟨"FilmPrinter", q.2.2, "(III)I"⟩ "FilmPrinter") U) ∧ va_Nw (.castable "[I" "java/lang/Cloneable") U ∧ ((G.X 3).1 = 7 → xRog G U H) ∧ (∀ a, (G.X 3).1 = 0 → G.ea 3 = some a → ∃ vmd : VmData, H[a]? = some { cls := G.ca 0, slots := (arrV (G.ca 0) 7 (fun i => .int (Int32.ofInt ((G.X 3).2.2 i)))).slots, vm := vmd } ∧ (∀ k, vmd ≠ .statics k) ∧ vmd ≠ .unknown ∧ ¬ xA G a)) ∧ va_AO "FilmPrinter$State" U
def xCx (G : xG) (mi n0 : Nat) (p : Program) (s : State) (m : MethodId) (args : Array Value) (meth : Method) (c : Code) : Prop :=
  p.tables.exec = Jvm.exec ∧ c.code = x_cc mi ∧ c.maxLocals = x_ml mi ∧ meth.sig.returnType = x_rt mi ∧ s.vm.findClass (x_on (x_ow mi)) = some m.cls ∧ (∀ w ∈ x_tbl, w.before args s = true) ∧ meth.locks = false ∧ ((x_nm mi).name = "<init>" → meth.name = "<init>") ∧ va_K G.D x_cls (xtys G) s ∧ xE G s s.heap ∧ s.heap.size = G.N + n0
def xW (G : xG) (p : Program) (l : Launch) (e : Env) (R : Room) (s : State) (m : MethodId) (args : Array Value) (below : List Frame) (meth : Method) (c : Code) (n0 z0 : Nat) (Q : State → Prop) (mi pc : Nat) (L S : List xV) (h : xH) : Prop :=
  ∀ (H : Heap) (locs : List Loc) (ls : Array Slot) (cells slots : Nat), xRel G h H → xLR G ls (x_ml mi) L → va_S (xA G) s.heap H locs → cells + n0 = h.2.1 → slots + z0 = h.2.2 → W p l e R s m args below meth c H locs cells slots Q (F0 m pc ls (S.map (xc G)))
def xSA (mi pc : Nat) (F : xX → xF) : Prop := ∀ (G : xG) (p : Program) (l : Launch) (e : Env) (R : Room) (s : State) (m : MethodId) (args : Array Value) (below : List Frame) (meth : Method) (c : Code) (Q : State → Prop) (n0 z0 : Nat), xCx G mi n0 p s m args meth c → ∀ (L S : List xV) (h : xH) (pc' : Nat) (L' S' : List xV) (h' : xH), F G.X pc L S h = some (.inl (pc', L', S', h')) →
  h.2.1 ≤ h'.2.1 ∧ h.2.2 ≤ h'.2.2 ∧ (h'.2.1 ≤ R.cells + n0 → h'.2.2 ≤ R.slots + z0 → 1 ≤ R.frames → 64 ≤ R.locals → xW G p l e R s m args below meth c n0 z0 Q mi pc' L' S' h' → xW G p l e R s m args below meth c n0 z0 Q mi pc L S h)
def xSB (mi pc : Nat) (F : xX → xF) : Prop := ∀ (G : xG) (p : Program) (l : Launch) (e : Env) (R : Room) (s : State) (m : MethodId) (args : Array Value) (below : List Frame) (meth : Method) (c : Code) (n0 : Nat), xCx G mi n0 p s m args meth c → ∀ (L S : List xV) (h : xH) (y : Nat) (as : List xV) (pc' : Nat) (S' : List xV), F G.X pc L S h = some (.inr (.inl (y, as, pc', S'))) →
  y < x_cnt ∧ pc' = pc + 3 ∧ ∀ (H : Heap) (locs : List Loc) (ls : Array Slot) (cells slots : Nat) (rm : Room) (Pc : Array Value → State → Prop) (Qc : Array Value → State → Outcome → State → Prop) (mc ms : Nat) (free : Addr → Prop), xRel G h H → xLR G ls (x_ml mi) L → va_S (xA G) s.heap H locs → Met l (x_nm y) (x_ws y) rm Pc Qc mc ms free → rm.cells = mc → rm.slots = ms → rm.frames + 1 ≤ R.frames → 8 + (x_ml y + 11) + rm.locals ≤ R.locals → FrameBlind Pc → (∀ U : State, U.heap = H → s.WarmedH U.vm → Pc (as.map (xc G)).toArray U) → cells + mc ≤ R.cells ∧ slots + ms ≤ R.slots →
    va_Run p l e R s m args below meth c H locs cells slots mc ms (F0 m pc ls (S.map (xc G))) (S'.map (xc G)) (Qc (as.map (xc G)).toArray) free
def xSC (mi pc : Nat) (F : xX → xF) : Prop := ∀ (X : xX) (L S : List xV) (h : xH) (r : Option xV), F X pc L S h = some (.inr (.inr r)) →
  (∃ (x : Int) (ty : FieldType), r = some (vI x) ∧ S = [vI x] ∧ decode (x_cc mi) pc = .ok (.ireturn, 1) ∧ x_rt mi = some ty ∧ narrow ty (.int (Int32.ofInt x)) = .int (Int32.ofInt x)) ∨ (∃ x : Int, r = some (vL x) ∧ S = [vL x] ∧ decode (x_cc mi) pc = .ok (.lreturn, 1) ∧ x_rt mi = some .long) ∨ (r = none ∧ S = [] ∧ decode (x_cc mi) pc = .ok (.return_, 1) ∧ x_rt mi = none)
def xSnd (mi pc : Nat) (F : xX → xF) : Prop := xSA mi pc F ∧ xSB mi pc F ∧ xSC mi pc F
/-- an instruction that neither calls nor answers -/
theorem xSnd.on {mi pc : Nat} {F : xX → xF} (hn : ∀ X L S h q, F X pc L S h ≠ some (.inr q)) (hA : xSA mi pc F) : xSnd mi pc F :=
  ⟨hA, fun G p l e R s m args below meth c n0 C L S h y as pc' S' hF => absurd hF (hn _ _ _ _ _), fun X L S h r hF => absurd hF (hn _ _ _ _ _)⟩
/-- no cell is made: the rest of the frame as it was -/
theorem xSA.same {mi pc : Nat} {F : xX → xF} (hA : ∀ (G : xG) (p : Program) (l : Launch) (e : Env) (R : Room) (s : State) (m : MethodId) (args : Array Value) (below : List Frame) (meth : Method) (c : Code) (Q : State → Prop) (n0 : Nat), xCx G mi n0 p s m args meth c → ∀ (L S : List xV) (h : xH) (pc' : Nat) (L' S' : List xV) (h' : xH), F G.X pc L S h = some (.inl (pc', L', S', h')) →
    h' = h ∧ (1 ≤ R.frames → 64 ≤ R.locals → ∀ (H : Heap) (locs : List Loc) (ls : Array Slot) (cells slots : Nat), xRel G h H → xLR G ls (x_ml mi) L → va_S (xA G) s.heap H locs → (∀ ls' : Array Slot, xLR G ls' (x_ml mi) L' → W p l e R s m args below meth c H locs cells slots Q (F0 m pc' ls' (S'.map (xc G)))) → W p l e R s m args below meth c H locs cells slots Q (F0 m pc ls (S.map (xc G))))) : xSA mi pc F := by
  intro G p l e R s m args below meth c Q n0 z0 C L S h pc' L' S' h' hF
  obtain ⟨rfl, k⟩ := hA G p l e R s m args below meth c Q n0 C L S h pc' L' S' h' hF
  refine ⟨Nat.le_refl _, Nat.le_refl _, fun _ _ r1 r2 kW H locs ls cells slots hR hL hS h1 h2 => ?_⟩
  exact k r1 r2 H locs ls cells slots hR hL hS (fun ls' hL' => kW H locs ls' cells slots hR hL' hS h1 h2)
/-- the heap's size out of what is left of the room: no cell is made but those that are counted -/
theorem W.sized {p : Program} {l : Launch} {e : Env} {R : Room} {s : State} {m : MethodId} {args : Array Value} {below : List Frame} {meth : Method} {c : Code} {H : Heap} {locs : List Loc} {cells slots : Nat} {Q : State → Prop} {g : JFrame}
    (k : H.size ≤ s.heap.size + cells → W p l e R s m args below meth c H locs cells slots Q g) : W p l e R s m args below meth c H locs cells slots Q g := by
  intro T hT X
  have h := X.same.2.2.1
  have h2 : T.heap.size ≤ s.heap.size + cells := h
  rw [hT] at h2
  exact k h2 T hT X
/-- a store: the heap behind it -/
theorem xRel_set {G : xG} {h : xH} {H H1 : Heap} {k : Nat} {c0 c : xC} {n0 cells : Nat} {s : State} (hR : xRel G h H) (hc : h.1 k = some c0) (hP : va_P G.D x_cls ((xws G h).set k (G.N + k, xce G c)) H1) (hz : H1.size ≤ s.heap.size + cells) (hs : s.heap.size = G.N + n0) (h1 : cells + n0 = h.2.1) (hS : s.heap.size ≤ H1.size) : xRel G (xset h k c) H1 := by
  rw [xws_set] at hP
  have ha := xset_some (c := c) (hR.lt hc) hR.1
  refine ⟨ha, hP, ?_⟩
  have h2 := xws_size hP ha (by omega)
  have h3 : (xset h k c).2.1 = h.2.1 := rfl
  rw [h3] at h2 ⊢
  omega
