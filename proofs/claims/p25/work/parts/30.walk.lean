-- the words that are used, by piece and place
def e_tbl : List Cond := tables_1.filter goodWord
def e_pc : Nat → List Cond := fun k => match k with
  | 1 => tables_1_1
  | 2 => tables_1_2
  | 3 => tables_1_3
  | 4 => tables_1_4
  | 5 => tables_1_5
  | 6 => tables_1_6
  | 7 => tables_1_7
  | _ => []
theorem e_pc_in : ∀ (k : Nat) (w : Cond), w ∈ e_pc k → w ∈ tables_1 := by
  intro k w h
  unfold tables_1
  match k, h with
  | 0, h => exact absurd h List.not_mem_nil
  | 1, h => exact List.mem_append_left _ h
  | 2, h => exact List.mem_append_right _ (List.mem_append_left _ h)
  | 3, h => exact List.mem_append_right _ (List.mem_append_right _ (List.mem_append_left _ h))
  | 4, h => exact List.mem_append_right _ (List.mem_append_right _ (List.mem_append_right _ (List.mem_append_left _ h)))
  | 5, h => exact List.mem_append_right _ (List.mem_append_right _ (List.mem_append_right _ (List.mem_append_right _ (List.mem_append_left _ h))))
  | 6, h => exact List.mem_append_right _ (List.mem_append_right _ (List.mem_append_right _ (List.mem_append_right _ (List.mem_append_right _ (List.mem_append_left _ h)))))
  | 7, h => exact List.mem_append_right _ (List.mem_append_right _ (List.mem_append_right _ (List.mem_append_right _ (List.mem_append_right _ (List.mem_append_right _ (h))))))
  | k + 8, h => exact absurd h List.not_mem_nil
theorem e_in {k i : Nat} {w : Cond} (h : (e_pc k)[i]? = some w) (hg : goodWord w = true) : w ∈ e_tbl := List.mem_filter.mpr ⟨e_pc_in _ _ (List.mem_of_getElem? h), hg⟩
theorem e_tbl_good : GoodIn e_tbl e_tbl := fun w hw => ⟨hw, good_of_word (List.mem_filter.mp hw).2⟩
theorem h_lc : (Jvm.Cond.classLink "FilmPrinterLaw" (7 : Nat) "FilmPrinter") ∈ e_tbl := e_in (k := 1) (i := 20) rfl rfl
theorem h_fi : (Jvm.Cond.instantiable "FilmPrinter" (12 : Nat)) ∈ e_tbl := e_in (k := 1) (i := 21) rfl rfl
theorem h_fn : (Jvm.Cond.initialized "FilmPrinter") ∈ e_tbl := e_in (k := 1) (i := 1) rfl rfl
theorem h_lm : (Jvm.Cond.methodLink "FilmPrinterLaw" (9 : Nat) ({ cls := "FilmPrinter", name := "<init>", desc := "()V" } : Jvm.MethodName)) ∈ e_tbl := e_in (k := 1) (i := 22) rfl rfl
theorem h_fm : (Jvm.Cond.instanceMethod ({ cls := "FilmPrinter", name := "<init>", desc := "()V" } : Jvm.MethodName)) ∈ e_tbl := e_in (k := 1) (i := 23) rfl rfl
theorem h_fk : (Jvm.Cond.code ({ cls := "FilmPrinter", name := "<init>", desc := "()V" } : Jvm.MethodName) prog_1_method_1_code (1 : Nat) (Option.none : Option Jvm.ClassFile.FieldType)) ∈ e_tbl := e_in (k := 1) (i := 24) rfl rfl
theorem h_fo : (Jvm.Cond.methodLink "FilmPrinter" (1 : Nat) ({ cls := "java/lang/Object", name := "<init>", desc := "()V" } : Jvm.MethodName)) ∈ e_tbl := e_in (k := 1) (i := 25) rfl rfl
theorem h_om : (Jvm.Cond.instanceMethod ({ cls := "java/lang/Object", name := "<init>", desc := "()V" } : Jvm.MethodName)) ∈ e_tbl := e_in (k := 1) (i := 26) rfl rfl
theorem h_ok : Cond.code objectInit ⟨#[0xb1]⟩ 1 none ∈ e_tbl := e_in (k := 1) (i := 27) rfl rfl
theorem h_sc : (Jvm.Cond.classLink "FilmPrinter" (7 : Nat) "FilmPrinter$State") ∈ e_tbl := e_in (k := 1) (i := 28) rfl rfl
theorem h_si : (Jvm.Cond.instantiable "FilmPrinter$State" (15 : Nat)) ∈ e_tbl := e_in (k := 1) (i := 29) rfl rfl
theorem h_sn : (Jvm.Cond.initialized "FilmPrinter$State") ∈ e_tbl := e_in (k := 1) (i := 2) rfl rfl
theorem h_sl : (Jvm.Cond.methodLink "FilmPrinter" (9 : Nat) ({ cls := "FilmPrinter$State", name := "<init>", desc := "()V" } : Jvm.MethodName)) ∈ e_tbl := e_in (k := 1) (i := 30) rfl rfl
theorem h_sm : (Jvm.Cond.instanceMethod ({ cls := "FilmPrinter$State", name := "<init>", desc := "()V" } : Jvm.MethodName)) ∈ e_tbl := e_in (k := 1) (i := 31) rfl rfl
theorem h_sk : (Jvm.Cond.code ({ cls := "FilmPrinter$State", name := "<init>", desc := "()V" } : Jvm.MethodName) prog_10_method_1_code (1 : Nat) (Option.none : Option Jvm.ClassFile.FieldType)) ∈ e_tbl := e_in (k := 1) (i := 32) rfl rfl
theorem h_so : (Jvm.Cond.methodLink "FilmPrinter$State" (3 : Nat) ({ cls := "java/lang/Object", name := "<init>", desc := "()V" } : Jvm.MethodName)) ∈ e_tbl := e_in (k := 1) (i := 33) rfl rfl
theorem h_ai : (Jvm.Cond.arrayClass Jvm.ClassFile.FieldType.int) ∈ e_tbl := e_in (k := 1) (i := 75) rfl rfl
theorem h_f0 : (Jvm.Cond.fieldLink "FilmPrinter$State" (9 : Nat) "FilmPrinter$State" "shots" "[I") ∈ e_tbl := e_in (k := 1) (i := 90) rfl rfl
theorem h_f1 : (Jvm.Cond.fieldLink "FilmPrinter$State" (15 : Nat) "FilmPrinter$State" "frameGreys" "[I") ∈ e_tbl := e_in (k := 1) (i := 92) rfl rfl
theorem h_f2 : (Jvm.Cond.fieldLink "FilmPrinter$State" (18 : Nat) "FilmPrinter$State" "frameShots" "[I") ∈ e_tbl := e_in (k := 1) (i := 95) rfl rfl
theorem h_cl : (Jvm.Cond.methodLink "FilmPrinter$State" (24 : Nat) ({ cls := "[I", name := "clone", desc := "()Ljava/lang/Object;" } : Jvm.MethodName)) ∈ e_tbl := e_in (k := 1) (i := 36) rfl rfl
theorem h_cs : (Jvm.Cond.sameMethod "[I" "java/lang/Object" "clone" "()Ljava/lang/Object;") ∈ e_tbl := e_in (k := 1) (i := 37) rfl rfl
theorem h_cn : (Jvm.Cond.native ({ cls := "java/lang/Object", name := "clone", desc := "()Ljava/lang/Object;" } : Jvm.MethodName)) ∈ e_tbl := e_in (k := 1) (i := 38) rfl rfl
theorem h_cm : (Jvm.Cond.instanceMethod ({ cls := "java/lang/Object", name := "clone", desc := "()Ljava/lang/Object;" } : Jvm.MethodName)) ∈ e_tbl := e_in (k := 1) (i := 39) rfl rfl
theorem h_fl : Cond.fieldLinkNest "FilmPrinter$State" 21 "FilmPrinter" "FIRST_TERM" "[I" "FilmPrinter" ∈ tables_1 := e_pc_in 1 _ (List.mem_of_getElem? (i := 34) rfl)
theorem h_ls : Cond.laysStatic "FilmPrinter" "FIRST_TERM" "[I" ∈ tables_1 := e_pc_in 1 _ (List.mem_of_getElem? (i := 35) rfl)
def R_St : String := "FilmPrinter$State"
def R_Fp : String := "FilmPrinter"
def R_Lw : String := "FilmPrinterLaw"
def F_St : u_T := fun k => match k with
  | 0 => ("FilmPrinter$State", "shotCount", "I", false)
  | 1 => ("FilmPrinter$State", "frameCount", "I", false)
  | 2 => ("FilmPrinter$State", "seenCount", "I", false)
  | 3 => ("FilmPrinter$State", "shots", "[I", true)
  | 4 => ("FilmPrinter$State", "frameGreys", "[I", true)
  | 5 => ("FilmPrinter$State", "frameShots", "[I", true)
  | 6 => ("FilmPrinter$State", "terms", "[I", true)
  | 7 => ("FilmPrinter$State", "law", "LFilmPrinter$Law;", true)
  | 8 => ("FilmPrinter$State", "fails", "[I", true)
  | 9 => ("FilmPrinter$State", "seen", "[I", true)
  | 10 => ("FilmPrinter$State", "copyCounts", "[I", true)
  | 11 => ("FilmPrinter$State", "copyGreys", "[I", true)
  | 12 => ("FilmPrinter$State", "copyScratches", "[I", true)
  | 13 => ("FilmPrinter$State", "pairCounts", "[I", true)
  | _ => ("FilmPrinter$State", "rights", "[I", true)
def t_St : Nat → FieldType := fun k => match k with
  | 0 => .int
  | 1 => .int
  | 2 => .int
  | 3 => .array .int
  | 4 => .array .int
  | 5 => .array .int
  | 6 => .array .int
  | 7 => .object "FilmPrinter$Law"
  | 8 => .array .int
  | 9 => .array .int
  | 10 => .array .int
  | 11 => .array .int
  | 12 => .array .int
  | 13 => .array .int
  | _ => .array .int
theorem n_St : ∀ a, a < 15 → ∀ b, b < 15 → a ≠ b → (F_St a).2.1 ≠ (F_St b).2.1 := by decide +kernel
theorem t_St_ok : ∀ k, k < 15 → parseFieldDescriptor (F_St k).2.2.1 = some (t_St k) := by decide +kernel
theorem i_St : ∀ w ∈ u_ws R_St F_St 15, w ∈ e_tbl := by
  intro w hw
  refine List.mem_filter.mpr ⟨?_, ?_⟩
  · revert w; decide +kernel
  · revert w; decide +kernel
abbrev b_Fp : ByteArray := prog_1_method_1_code
abbrev b_St : ByteArray := prog_10_method_1_code
def y_Fp : MethodName := ⟨"FilmPrinter", "<init>", "()V"⟩
def y_St : MethodName := ⟨"FilmPrinter$State", "<init>", "()V"⟩
theorem d_r0 : decode b_Rog 0 = .ok (.goto 0, 3) := by decide +kernel
theorem d_l0 : decode code 0 = .ok (.new 7, 3) := by decide +kernel
theorem d_l3 : decode code 3 = .ok (.dup, 1) := by decide +kernel
theorem d_l4 : decode code 4 = .ok (.invokespecial 9, 3) := by decide +kernel
theorem d_f0 : decode b_Fp 0 = .ok (.aload_n 0, 1) := by decide +kernel
theorem d_f1 : decode b_Fp 1 = .ok (.invokespecial 1, 3) := by decide +kernel
theorem d_f4 : decode b_Fp 4 = .ok (.aload_n 0, 1) := by decide +kernel
theorem d_f5 : decode b_Fp 5 = .ok (.new 7, 3) := by decide +kernel
theorem d_f8 : decode b_Fp 8 = .ok (.dup, 1) := by decide +kernel
theorem d_f9 : decode b_Fp 9 = .ok (.invokespecial 9, 3) := by decide +kernel
theorem d_s0 : decode b_St 0 = .ok (.aload_n 0, 1) := by decide +kernel
theorem d_s1 : decode b_St 1 = .ok (.invokespecial 3, 3) := by decide +kernel
theorem d_s4 : decode b_St 4 = .ok (.aload_n 0, 1) := by decide +kernel
theorem d_s5 : decode b_St 5 = .ok (.bipush 112, 2) := by decide +kernel
theorem d_s7 : decode b_St 7 = .ok (.newarray .int, 2) := by decide +kernel
theorem d_s9 : decode b_St 9 = .ok (.putfield 9, 3) := by decide +kernel
theorem d_s12 : decode b_St 12 = .ok (.aload_n 0, 1) := by decide +kernel
theorem d_s13 : decode b_St 13 = .ok (.sipush 640, 3) := by decide +kernel
theorem d_s16 : decode b_St 16 = .ok (.newarray .int, 2) := by decide +kernel
theorem d_s18 : decode b_St 18 = .ok (.putfield 15, 3) := by decide +kernel
theorem d_s21 : decode b_St 21 = .ok (.aload_n 0, 1) := by decide +kernel
theorem d_s22 : decode b_St 22 = .ok (.sipush 640, 3) := by decide +kernel
theorem d_s25 : decode b_St 25 = .ok (.newarray .int, 2) := by decide +kernel
theorem d_s27 : decode b_St 27 = .ok (.putfield 18, 3) := by decide +kernel
theorem d_s30 : decode b_St 30 = .ok (.aload_n 0, 1) := by decide +kernel
theorem d_s31 : decode b_St 31 = .ok (.getstatic 21, 3) := by decide +kernel
theorem d_s34 : decode b_St 34 = .ok (.invokevirtual 24, 3) := by decide +kernel
/-- what lies outside: the static array is of the class "[R", whose clone the tables select -/
def rg (A : Nat → Prop) (t : Nat) (U : State) (H : Heap) : Prop := va_Z "FilmPrinter" "FIRST_TERM" "[I" (.ref t) A U H ∧ va_O "[R" t A U H ∧ (∀ w ∈ e_rw, va_Nw w U) ∧ va_Nw (.fieldLinkNest "FilmPrinter$State" 21 "FilmPrinter" "FIRST_TERM" "[I" "FilmPrinter") U
theorem e_rw_on : ∀ w ∈ e_rw, w.onTables = true := fun w hw => List.all_eq_true.mp (show e_rw.all (fun w => w.onTables) = true by decide +kernel) w hw
theorem e_rw_good : ∀ w ∈ e_rw, ((w.onTables && w.keeps) = true ∨ ∃ ty, w = .arrayClass ty) := fun w hw => good_of_word (List.all_eq_true.mp (show e_rw.all goodWord = true by decide +kernel) w hw)
theorem rg.to {A : Nat → Prop} {t : Nat} {s U : State} {H : Heap} (h : rg A t s s.heap) (hW : s.WarmedH U.vm) (hq : ∀ a : Nat, a < s.heap.size → ¬ A a → H[a]? = s.heap[a]?) : rg A t U H :=
  ⟨(h.1.kept hq).moved hW.alike, (h.2.1.kept hq).moved hW.alike, fun w hw => va_Nw.of (e_rw_on w hw) (word_at (a' := #[]) hW (e_rw_good w hw) (h.2.2.1 w hw)), h.2.2.2.warmF hW⟩
theorem rg.calling {A : Nat → Prop} {t : Nat} {U : State} {H : Heap} (h : rg A t U H) (g : JFrame) (mk : MethodId) (a : Array Value) : rg A t (U.calling g mk a) H :=
  ⟨h.1.moved (Vm.Alike.refl U.vm), h.2.1.moved (Vm.Alike.refl U.vm), fun w hw => va_Nw.same (e_rw_on w hw) (u := U) (U := U.calling g mk a) rfl (h.2.2.1 w hw), h.2.2.2.same rfl rfl⟩
-- the clone that never ends
def ws_Rog : List Cond := [.code y_Rog b_Rog 1 (some (.object "java/lang/Object"))]
def rm_Rog : Room := { frames := 0, cells := 0, slots := 0, locals := 0 }
theorem nv_loop {tb : Tables} [Ours tb] {e : Env} {below : List Frame} {T : State} {m : MethodId} {c : Code} (h : At T m c below) (hexec : tb.exec = Jvm.exec) (hb : c.code = b_Rog) (ls : Array Slot) : nv tb e below (T.setTop (F0 m 0 ls [])) := by
  have hs : (stepThread tb e (T.setTop (F0 m 0 ls []))).1 = T.setTop (F0 m 0 ls []) := by
    refine nv_instr (fun t => t = T.setTop (F0 m 0 ls [])) (c := c) (by simpa using h) ?_
    simp [jvm, wpRun, exec, h.top, hexec, hb, d_r0]
  have hgo : (T.setTop (F0 m 0 ls [])).goesOn := ⟨h.running, by rw [State.curStatus?_setTop]; exact h.runnable, by rw [State.alone_setTop]; exact h.alone⟩
  intro n
  induction n with
  | zero => exact h.within (F0 m 0 ls [])
  | succ n ih => rw [stepsAlone_succ _ hgo, hs]; exact ih
theorem nm_Rog (l : Launch) : NM l y_Rog (headSpec ws_Rog rm_Rog) (fun _ _ => True) := by
  refine NM.ofW (cc := b_Rog) (maxL := 1) (ret := some (.object "java/lang/Object")) (by decide) rfl ?_
  intro p e s m args below meth c s₁ B hml _ T hT X
  exact ⟨_, Steps.refl _, nv_loop X.here B.exec B.bytes _⟩
-- State()
def ws_St : List Cond := .code y_St b_St 1 none :: e_tbl
def rm_St : Room := { frames := 1, cells := 3, slots := 1392, locals := 20 }
abbrev cl_St : List vw_C := [(R_St, F_St, 15)]
def pc_St (A : Nat → Prop) (D : va_G) (t h0 : Nat) : Array Value → State → Prop := fun a U => a = ([.ref h0] : List Value).toArray ∧ (∀ q : Nat, U.heap.size ≤ q → A q) ∧ va_P D cl_St [(h0, .inr (0, [.int 0, .int 0, .int 0, .null, .null, .null, .null, .null, .null, .null, .null, .null, .null, .null, .null]))] U.heap ∧ va_K D cl_St [] U ∧ va_D A [(h0, .inr (0, [.int 0, .int 0, .int 0, .null, .null, .null, .null, .null, .null, .null, .null, .null, .null, .null, .null]))] ∧ rg A t U U.heap
theorem e_len (x : MethodName) (h : (parseMethodDescriptor x.desc).map (fun d => d.parameters.length) = some 0) : ∀ sig, parseMethodDescriptor x.desc = some sig → 0 = sig.parameters.length := by
  intro sig hs
  rw [hs] at h
  exact (Option.some.inj h).symm
set_option maxHeartbeats 4000000 in
set_option maxRecDepth 100000 in
theorem nm_St (l : Launch) (A : Nat → Prop) (D : va_G) (t h0 : Nat) : NM l y_St (headSpec ws_St rm_St) (pc_St A D t h0) := by
  refine NM.ofW (cc := b_St) (maxL := 1) (ret := none) (by decide) rfl ?_
  intro p e s m args below meth c s₁ B hml hv
  obtain ⟨rfl, hA, hP, hK, hD, hg⟩ := hv
  have hx := B.exec
  have hb := B.bytes
  have hts0 := atoms_spec (ws := ws_St) B.pre
  have hts : ∀ w ∈ e_tbl, w.before ([.ref h0] : List Value).toArray s = true := fun w hw => hts0 w (List.mem_cons_of_mem _ hw)
  have hown : s.vm.findClass R_St = some m.cls := findClass_of_methodNamed B.named
  have hin : meth.name = "<init>" := (name_of_methodNamed B.named B.method).1
  have hS : va_S A s.heap s.heap [] := va_S.rf
  have hl := lv_entry ([.ref h0]) (n := 1) (Nat.le_of_ble_eq_true rfl)
  rw [lg_entry_eq]
  generalize (lg_sl ([.ref h0]) ++ List.replicate (1 - (lg_sl ([.ref h0])).length) Slot.unset).toArray = ls at hl ⊢
  have hl : lv_has ls 1 [(0, .ref h0)] := hl
  refine lv_aload_n hx hb d_s0 rfl (lv_at hl 0 rfl) ?_
  refine W.objInit hx hb hown (hts _ h_so) (hts _ h_om) (hts _ h_ok) rfl (by rw [hml]; exact hl.1) rfl d_s1 (Nat.le_of_ble_eq_true rfl) (Nat.le_of_ble_eq_true rfl) ?_
  refine W.eq (g2 := F0 m 4 ls []) rfl ?_
  refine lv_aload_n hx hb d_s4 rfl (lv_at hl 0 rfl) ?_
  refine lv_bipush (v := 112) hx hb d_s5 (by decide) ?_
  refine va_newa (atype := .int) (a0 := (112, .inl (fun _ => 0))) (ty := .int) (N' := 112) (H0 := s.heap) (A := A) hx hb (hts _ h_ai) rfl hK hP hD hS hA (fun cA => rfl) (by decide) (by decide) (by decide) (by decide) (by decide) d_s7 (fun q1 cA1 H1 hK1 hP1 hD1 hS1 => ?_)
  refine va_putF (D := D) (ci := 0) (v := .ref q1) (ty := .array .int) (C := R_St) (T := F_St) (N := 15) hx hb hts i_St t_St t_St_ok n_St hown hK1 hP1 hD1 hS1 0 rfl rfl 3 (by decide) (hts _ h_f0) (fun _ h9 => h9) rfl hin rfl (by decide +kernel) rfl rfl (Nat.le_of_ble_eq_true rfl) d_s9 (fun H2 locs2 hP2 hD2 hS2 => ?_)
  have hP := hP2.sub (ws' := [(h0, .inr (0, [.int 0, .int 0, .int 0, .ref q1, .null, .null, .null, .null, .null, .null, .null, .null, .null, .null, .null]))]) [0] rfl
  have hD := hD2.sub (ws' := [(h0, .inr (0, [.int 0, .int 0, .int 0, .ref q1, .null, .null, .null, .null, .null, .null, .null, .null, .null, .null, .null]))]) [0] (by decide) rfl
  refine lv_aload_n hx hb d_s12 rfl (lv_at hl 0 rfl) ?_
  refine lv_sipush (v := 640) hx hb d_s13 (by decide) ?_
  refine va_newa (atype := .int) (a0 := (640, .inl (fun _ => 0))) (ty := .int) (N' := 640) (H0 := s.heap) (A := A) hx hb (hts _ h_ai) rfl hK hP hD hS2 hA (fun cA => rfl) (by decide) (by decide) (by decide) (by decide) (by decide) d_s16 (fun q2 cA2 H3 hK3 hP3 hD3 hS3 => ?_)
  refine va_putF (D := D) (ci := 0) (v := .ref q2) (ty := .array .int) (C := R_St) (T := F_St) (N := 15) hx hb hts i_St t_St t_St_ok n_St hown hK3 hP3 hD3 hS3 0 rfl rfl 4 (by decide) (hts _ h_f1) (fun _ h9 => h9) rfl hin rfl (by decide +kernel) rfl rfl (Nat.le_of_ble_eq_true rfl) d_s18 (fun H4 locs4 hP4 hD4 hS4 => ?_)
  have hP := hP4.sub (ws' := [(h0, .inr (0, [.int 0, .int 0, .int 0, .ref q1, .ref q2, .null, .null, .null, .null, .null, .null, .null, .null, .null, .null]))]) [0] rfl
  have hD := hD4.sub (ws' := [(h0, .inr (0, [.int 0, .int 0, .int 0, .ref q1, .ref q2, .null, .null, .null, .null, .null, .null, .null, .null, .null, .null]))]) [0] (by decide) rfl
  refine lv_aload_n hx hb d_s21 rfl (lv_at hl 0 rfl) ?_
  refine lv_sipush (v := 640) hx hb d_s22 (by decide) ?_
  refine va_newa (atype := .int) (a0 := (640, .inl (fun _ => 0))) (ty := .int) (N' := 640) (H0 := s.heap) (A := A) hx hb (hts _ h_ai) rfl hK hP hD hS4 hA (fun cA => rfl) (by decide) (by decide) (by decide) (by decide) (by decide) d_s25 (fun q3 cA3 H5 hK5 hP5 hD5 hS5 => ?_)
  refine va_putF (D := D) (ci := 0) (v := .ref q3) (ty := .array .int) (C := R_St) (T := F_St) (N := 15) hx hb hts i_St t_St t_St_ok n_St hown hK5 hP5 hD5 hS5 0 rfl rfl 5 (by decide) (hts _ h_f2) (fun _ h9 => h9) rfl hin rfl (by decide +kernel) rfl rfl (Nat.le_of_ble_eq_true rfl) d_s27 (fun H6 locs6 hP6 hD6 hS6 => ?_)
  refine lv_aload_n hx hb d_s30 rfl (lv_at hl 0 rfl) ?_
  refine va_getsN (C := "FilmPrinter") (n := "FIRST_TERM") (d := "[I") (v := .ref t) hx hb hg.1 hS6 hown (va_Nw.use rfl hg.2.2.2) (fun _ h9 => h9) d_s31 ?_
  obtain ⟨cell, g1, g2, g3, -⟩ := hg.2.1.kept hS6.2.1
  obtain ⟨r, methO, hnO, hmO, -, -, -, hsig⟩ := Cond.native_spec (hts _ h_cn)
  obtain ⟨r', methO', hnO', hmO', hstO, -⟩ := Cond.instanceMethod_spec (hts _ h_cm)
  cases hnO.symm.trans hnO'
  cases hmO.symm.trans hmO'
  have hu : ∀ w ∈ e_rw, w.before ([.ref h0] : List Value).toArray s = true := fun w hw => va_Nw.use (e_rw_on w hw) (hg.2.2.1 w hw)
  refine W.nvU (own := R_St) (C := "[R") (owner := "java/lang/Object") (index := 24) (x := ⟨"[I", "clone", "()Ljava/lang/Object;"⟩) (y := y_Rog) (ws := ws_Rog) (rm := rm_Rog) (P := fun _ _ => True) (bytes := b_Rog) (maxL := 1) (ret := some (.object "java/lang/Object")) (nm_Rog l) hx hb hml hown (hts _ h_cl) (hts _ h_cs) ⟨r, methO, hnO, hmO, hstO, hsig⟩ ⟨by decide, by decide⟩ (hu _ (by simp [e_rw])) (hu _ (by simp [e_rw])) (hu _ (by simp [e_rw, y_Rog])) ?_ List.mem_cons_self g1 g2 g3 hl.1 (e_len _ (by decide +kernel)) (Nat.le_of_ble_eq_true rfl) d_s34 (by decide) (by decide) (by decide) (by decide) (fun _ _ _ _ _ => trivial)
  intro w hw a' U hW
  unfold ws_Rog at hw
  rcases List.mem_cons.mp hw with rfl | hw
  · exact word_at hW (e_rw_good _ (by simp [e_rw])) (hu _ (by simp [e_rw]))
  · exact absurd hw List.not_mem_nil
-- FilmPrinter()
def ws_Fp : List Cond := .code y_Fp b_Fp 1 none :: e_tbl
def rm_Fp : Room := { frames := 2, cells := 4, slots := 1392 + 15, locals := 40 }
def pc_Fp (A : Nat → Prop) (t h0 : Nat) : Array Value → State → Prop := fun a U => a = ([.ref h0] : List Value).toArray ∧ (∀ q : Nat, U.heap.size ≤ q → A q) ∧ rg A t U U.heap
theorem e_ws {args : Array Value} {s : State} {y : MethodName} {bytes : ByteArray} {n : Nat} (hts : ∀ w ∈ e_tbl, w.before args s = true) (hc : Cond.code y bytes n none ∈ e_tbl) : ∀ w ∈ (Cond.code y bytes n none :: e_tbl), ∀ (a' : Array Value) (U : State), s.WarmedH U.vm → w.before a' U = true := by
  intro w hw a' U hW
  have hw : w ∈ e_tbl := by
    rcases List.mem_cons.mp hw with rfl | hw
    · exact hc
    · exact hw
  exact word_at hW (e_tbl_good w hw).2 (hts w hw)
theorem e_blank : ∀ j, j < 15 → defaultValue (t_St j) = vp_V [.int 0, .int 0, .int 0, .null, .null, .null, .null, .null, .null, .null, .null, .null, .null, .null, .null] j := by
  intro j hj
  match j, hj with
  | 0, _ => rfl
  | 1, _ => rfl
  | 2, _ => rfl
  | 3, _ => rfl
  | 4, _ => rfl
  | 5, _ => rfl
  | 6, _ => rfl
  | 7, _ => rfl
  | 8, _ => rfl
  | 9, _ => rfl
  | 10, _ => rfl
  | 11, _ => rfl
  | 12, _ => rfl
  | 13, _ => rfl
  | 14, _ => rfl
  | j + 15, h => exact absurd h (by omega)
set_option maxHeartbeats 4000000 in
set_option maxRecDepth 100000 in
theorem nm_Fp (l : Launch) (A : Nat → Prop) (t h0 : Nat) : NM l y_Fp (headSpec ws_Fp rm_Fp) (pc_Fp A t h0) := by
  refine NM.ofW (cc := b_Fp) (maxL := 1) (ret := none) (by decide) rfl ?_
  intro p e s m args below meth c s₁ B hml hv
  obtain ⟨rfl, hA, hg⟩ := hv
  have hx := B.exec
  have hb := B.bytes
  have hts0 := atoms_spec (ws := ws_Fp) B.pre
  have hts : ∀ w ∈ e_tbl, w.before ([.ref h0] : List Value).toArray s = true := fun w hw => hts0 w (List.mem_cons_of_mem _ hw)
  have hown : s.vm.findClass R_Fp = some m.cls := findClass_of_methodNamed B.named
  have hS : va_S A s.heap s.heap [] := va_S.rf
  obtain ⟨cC, iS, hKn⟩ := u_known hts i_St (hts _ h_si)
  have hK : va_K (fun _ => cC, fun _ => iS) cl_St [] s := by
    refine ⟨fun ci q hq => ?_, fun k q hk => by simp at hk⟩
    match ci, hq with
    | 0, hq => cases hq; exact hKn
    | k + 1, hq => simp at hq
  have hP : va_P (fun _ => cC, fun _ => iS) cl_St [] s.heap := fun k q hk => by simp at hk
  have hD : va_D A [] := ⟨fun i j p q hi => by simp at hi, fun k q hk => by simp at hk⟩
  have hl := lv_entry ([.ref h0]) (n := 1) (Nat.le_of_ble_eq_true rfl)
  rw [lg_entry_eq]
  generalize (lg_sl ([.ref h0]) ++ List.replicate (1 - (lg_sl ([.ref h0])).length) Slot.unset).toArray = ls at hl ⊢
  have hl : lv_has ls 1 [(0, .ref h0)] := hl
  refine lv_aload_n hx hb d_f0 rfl (lv_at hl 0 rfl) ?_
  refine W.objInit hx hb hown (hts _ h_fo) (hts _ h_om) (hts _ h_ok) rfl (by rw [hml]; exact hl.1) rfl d_f1 (Nat.le_of_ble_eq_true rfl) (Nat.le_of_ble_eq_true rfl) ?_
  refine W.eq (g2 := F0 m 4 ls []) rfl ?_
  refine lv_aload_n hx hb d_f4 rfl (lv_at hl 0 rfl) ?_
  refine va_new (ci := 0) (fs := [.int 0, .int 0, .int 0, .null, .null, .null, .null, .null, .null, .null, .null, .null, .null, .null, .null]) (C := R_St) (T := F_St) (N := 15) hx hb hts i_St t_St t_St_ok hown (hts _ h_sc) (hts _ h_si) (hts _ h_sn) hK hP hD hS hA rfl e_blank (by decide) (by decide) d_f5 (fun q5 H hP hD hS => ?_)
  have hP : va_P (fun _ => cC, fun _ => iS) cl_St [(q5, .inr (0, [.int 0, .int 0, .int 0, .null, .null, .null, .null, .null, .null, .null, .null, .null, .null, .null, .null]))] H := hP
  have hD : va_D A [(q5, .inr (0, [.int 0, .int 0, .int 0, .null, .null, .null, .null, .null, .null, .null, .null, .null, .null, .null, .null]))] := hD
  refine lv_dup hx hb d_f8 rfl ?_
  refine W.nvI (own := R_Fp) (index := 9) (y := y_St) (ws := ws_St) (rm := rm_St) (P := pc_St A (fun _ => cC, fun _ => iS) t q5) (bytes := b_St) (maxL := 1) (nm_St l A (fun _ => cC, fun _ => iS) t q5) hx hb hml hown rfl (hts _ h_sl) (hts _ h_sm) ⟨by decide, by decide⟩ (hts _ h_sn) (e_ws hts h_sk) List.mem_cons_self hl.1 (e_len _ (by decide +kernel)) (Nat.le_of_ble_eq_true rfl) d_f9 (by decide) (by decide) (by decide) (by decide) (fun U g mk hU hW => ?_)
  have hq : ∀ a : Nat, a < s.heap.size → ¬ A a → U.heap[a]? = s.heap[a]? := fun a h1 h2 => by rw [hU]; exact hS.2.1 a h1 h2
  refine ⟨rfl, fun q h => hA q ?_, ?_, va_K.moved (u := s) (U := U.calling g mk #[Value.ref q5]) hW.alike hK, hD, ?_⟩
  · have h : U.heap.size ≤ q := h
    rw [hU] at h
    exact Nat.le_trans hS.1 h
  · show va_P _ cl_St _ U.heap
    rw [hU]
    exact hP
  · exact (hg.to hW hq).calling g mk _
-- the law
set_option maxHeartbeats 4000000 in
set_option maxRecDepth 100000 in
theorem start1.nm_law (l : Launch) : NM l x (headSpec (Jvm.Cond.code x code maxLocals ret :: tables_1) room_1) (fun a s => a = args0 ∧ s = rogue) := by
  refine NM.ofW (cc := code) (maxL := maxLocals) (ret := ret) (by decide) rfl ?_
  intro p e s m args below meth c s₁ B hml hv
  obtain ⟨rfl, hs⟩ := hv
  have hx := B.exec
  have hb := B.bytes
  have hts0 := atoms_spec (ws := Jvm.Cond.code x code maxLocals ret :: tables_1) B.pre
  have hts1 : ∀ w ∈ tables_1, w.before args0 s = true := fun w hw => hts0 w (List.mem_cons_of_mem _ hw)
  have hts : ∀ w ∈ e_tbl, w.before args0 s = true := fun w hw => hts1 w (List.mem_filter.mp hw).1
  have hown : s.vm.findClass R_Lw = some m.cls := findClass_of_methodNamed B.named
  have hA : ∀ a : Nat, a < s.heap.size → ¬ (fun q : Nat => s.heap.size ≤ q) a := fun a h => Nat.not_le.mpr h
  have hg : rg (fun q : Nat => s.heap.size ≤ q) 5 s s.heap := by
    refine ⟨va_Zof (hts1 _ h_ls) (hts _ h_fn) (by rw [hs]; decide +kernel) hA, ?_, fun w hw => ?_, va_Nw.of rfl (hts1 _ h_fl)⟩
    · rw [hs]
      exact ⟨{ cls := 31, slots := #[.int (4), .int (3), .int (5), .int (500), .int (20), .int (10), .int (10)], vm := .none }, by rfl, rfl, by decide +kernel, by show ¬ rogue.heap.size ≤ 5; decide +kernel⟩
    · rw [hs]
      unfold e_rw at hw
      rcases List.mem_cons.mp hw with rfl | hw
      · exact r_rw0
      · exact List.all_eq_true.mp r_rw1 w hw
  have hl := lv_entry ([.ref 0]) (n := maxLocals) (Nat.le_of_ble_eq_true rfl)
  have e0 : entryFrame m args0 maxLocals = F0 m 0 ((lg_sl ([.ref 0]) ++ List.replicate (maxLocals - (lg_sl ([.ref 0])).length) Slot.unset).toArray) [] := lg_entry_eq ..
  rw [e0]
  generalize (lg_sl ([.ref 0]) ++ List.replicate (maxLocals - (lg_sl ([.ref 0])).length) Slot.unset).toArray = ls at hl ⊢
  refine W.newc hx hb hown (hts _ h_lc) (hts _ h_fi) (hts _ h_fn) rfl d_l0 (by decide) (by decide) (fun cC kC _ _ _ _ => ?_)
  refine W.eq (g2 := F0 m 3 ls [.ref s.heap.size]) rfl ?_
  refine lv_dup hx hb d_l3 rfl ?_
  refine W.nvI (own := R_Lw) (index := 9) (y := y_Fp) (ws := ws_Fp) (rm := rm_Fp) (P := pc_Fp (fun q : Nat => s.heap.size ≤ q) 5 s.heap.size) (bytes := b_Fp) (maxL := 1) (nm_Fp l (fun q : Nat => s.heap.size ≤ q) 5 s.heap.size) hx hb hml hown rfl (hts _ h_lm) (hts _ h_fm) ⟨by decide, by decide⟩ (hts _ h_fn) (e_ws hts h_fk) List.mem_cons_self hl.1 (e_len _ (by decide +kernel)) (Nat.le_of_ble_eq_true rfl) d_l4 (by decide) (by decide) (by decide) (by decide) (fun U g mk hU hW => ?_)
  refine ⟨rfl, fun q h => ?_, ?_⟩
  · have h : U.heap.size ≤ q := h
    rw [hU, Array.size_push] at h
    show s.heap.size ≤ q
    omega
  · refine (hg.to hW (fun a h1 h2 => ?_)).calling g mk _
    show U.heap[a]? = s.heap[a]?
    rw [hU, Array.getElem?_push, if_neg (Nat.ne_of_lt h1)]
/-- THE ROW IS FALSE AS IT IS PRINTED: from a start that its premises allow the law never ends -/
theorem start1.refuted : ¬ Claimed_1_1 ∧ ¬ Claimed_1_2 := by
  obtain ⟨a1, a2, a3, a4, a5, a6, a7, a8, a9, a10, a11, a12, a13⟩ := r_atStart
  have hn := nm_law launch0 p0 e0 a3 a5 a6 rogue ⟨0, 0⟩ args0 Lib.HandBits.below0 a7 ((Spec.applies_iff_loose a7).mp a10).1 ⟨rfl, rfl⟩
  refine ⟨fun h => ?_, fun h => ?_⟩
  · obtain ⟨n, o, w1, w2, w3, w4⟩ := h launch0 rfl a1 a2 p0 e0 a3 a5 a6 rogue ⟨0, 0⟩ args0 Lib.HandBits.below0 a7 a8 a9 a10 ⟨a11, a12, a13⟩
    exact w3.not_within (hn n)
  · obtain ⟨n, o, w1, w2, w3, w4⟩ := h launch0 rfl a1 a2 p0 e0 a3 a5 a6 rogue ⟨0, 0⟩ args0 Lib.HandBits.below0 a7 a8 a9 a10 ⟨a11, a12, a13⟩
    exact w3.not_within (hn n)
theorem start1.not_i_vc : ¬ (Claimed_1_1 ∧ Claimed_1_2) := fun h => refuted.1 h.1
