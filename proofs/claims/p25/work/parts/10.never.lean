/-! AN INVOCATION THAT NEVER ENDS -/
def nv (tb : Tables) (e : Env) (below : List Frame) (s : State) : Prop := ∀ n, Within (stepsAlone tb e n s) below
theorem nv_steps {tb : Tables} {e : Env} {below : List Frame} {s t : State} (h : Steps tb e below s t) (ht : nv tb e below t) : nv tb e below s := by
  obtain ⟨n, hn, hw⟩ := h
  intro k
  rcases Nat.lt_or_ge k n with h | h
  · exact hw k h
  · obtain ⟨j, rfl⟩ := Nat.exists_eq_add_of_le h
    rw [stepsAlone_add, hn]
    exact ht j
/-- one instruction: what holds of the state behind it -/
theorem nv_instr {tb : Tables} [Ours tb] {e : Env} {below : List Frame} {s : State} {f : JFrame} {c : Code} (Q : State → Prop) (h : At s f.method c below)
    (hw : match decode c.code f.pc with
      | .ok (i, len) => wpRun (tb.exec i) (fun _ s₁ _ => ∀ acts, Q (afterInstr e len (.ok () s₁ acts)).1) (fun x s₁ _ => ∀ acts, Q (afterInstr e len (.ctl x s₁ acts)).1) e (s.setTop f)
      | .error _ => False) : Q (stepThread tb e (s.setTop f)).1 := by
  rcases hd : decode c.code f.pc with x | ⟨i, len⟩
  · rw [hd] at hw; exact hw.elim
  · rw [hd] at hw
    rw [stepThread_java (State.frames_setTop' f h.top) h.plain h.code hd]
    have hw := (wpRun_iff_run _ _ _ _ _).mp hw
    cases hr : (tb.exec i).run e (s.setTop f) with
    | ok a s₁ acts => rw [hr] at hw; exact hw acts
    | ctl x s₁ acts => rw [hr] at hw; cases x <;> first | exact hw acts | exact hw.elim
/-- a contract: the method never ends -/
def NM (l : Launch) (x : MethodName) (S : Spec) (P : Array Value → State → Prop) : Prop :=
  ∀ (p : Program) e, l.admits e → FairCas e.choices → FairClock e.choices → ∀ s m args below,
    s.frames = .invoking m args :: below → S.appliesLoose x e.platform s = true → P args s → nv p.tables e below s
theorem NM.ofW {l : Launch} {y : MethodName} {ws ws' : List Cond} {rm : Room} {P : Array Value → State → Prop} {cc : ByteArray} {maxL : Nat} {ret : Option FieldType}
    (hy : plainName y.cls = true) (hw : ws = Cond.code y cc maxL ret :: ws')
    (body : ∀ p e s m args below meth c s₁, BodyLoose p l y (headSpec ws rm) cc maxL ret e s m args below meth c s₁ → c.maxLocals = maxL → P args s →
      W p l e (headSpec ws rm).room s m args below meth c s.heap [] 0 0 (nv p.tables e below) (entryFrame m args maxL)) : NM l y (headSpec ws rm) P := by
  intro p e ha hc hk s m args below hf happ hP
  obtain ⟨hrun, hable, halone, hname, hhears, hinit, hroom, hpre⟩ := (Spec.appliesLoose_iff hf).mp happ
  obtain ⟨meth, c, hmeth, hcode, hbytes, hlocals, hret, hlocks, -, -⟩ := Cond.code_spec hname (atoms_spec (ws := ws) hpre _ (by rw [hw]; exact List.mem_cons_self))
  have hcur := State.cur_lt_of_frames hf
  have hf1 : (s.setFrames (.java (entryFrame m args maxL) :: below)).frames = .java (entryFrame m args maxL) :: below := State.frames_setFrames _ hcur
  have ht1 := State.topJava?_of_frames hf1
  have hplain : (s.setFrames (.java (entryFrame m args maxL) :: below)).plainMethod m := State.plainMethod.of_named (s := s) (plainFor_of_name hy) hname hmeth
  have hAt : At (s.setFrames (.java (entryFrame m args maxL) :: below)) m c below :=
    ⟨by rw [ht1]; rfl, ⟨[], by rw [hf1]; rfl⟩, hrun, by simpa using hable, by simpa using halone, by rw [State.code?_eq]; simp [State.setFrames, hmeth, hcode], hplain⟩
  have hstep : (stepThread p.tables e s).1 = (s.setFrames (.java (entryFrame m args maxL) :: below)).setTop (entryFrame m args maxL) := by
    have hfull : e.platform.stackFull (s.setFrames below).me (s.setFrames below).frames c.maxLocals = false := by
      obtain ⟨-, h1, -, h2⟩ := State.hasRoom_stack hroom
      rw [hf, List.length_cons] at h1
      rw [State.localsInUse_invoking hf hmeth hcode] at h2
      have hw := stackUse_le_stackWeight below
      rw [State.frames_setFrames _ hcur]
      exact Platform.stackFull_eq_false (by rw [State.stackLimits_setFrames]; omega) (by rw [State.stackLimits_setFrames]; omega)
    rw [stepThread_invoking hf, (doInvoke_java (s := s.setFrames below) (e := e) (meth := meth) (code := c) hmeth hcode hlocks hfull).1, State.setTop_self ht1]
    simp only [State.pushFrame, State.frames_setFrames _ hcur, State.setFrames_setFrames, hlocals, entryFrame]
  have B : BodyLoose p l y (headSpec ws rm) cc maxL ret e s m args below meth c _ := ⟨ha, hc, hk, by cases p <;> rfl, hf, hname, hhears, hinit, hroom, hpre, hmeth, hret, hlocks, hbytes, rfl, hAt⟩
  have hh0 : (s.setFrames (.java (entryFrame m args maxL) :: below)).heap = s.heap := rfl
  obtain ⟨t, a1, a2⟩ := body p e s m args below meth c _ B hlocals hP _ hh0 (Stand.of_body B)
  exact nv_steps (Steps.head (tb := p.tables) (e := e) ⟨hrun, hable, halone⟩ ⟨[.invoking m args], hf, by simp, by simp⟩ (hstep ▸ a1)) a2
section NV
variable {p : Program} {l : Launch} {e : Env} {R : Room} {s : State} {m : MethodId} {args : Array Value} {below : List Frame} {meth : Method} {c : Code} {H : Heap} {locs : List Loc} {cells slots : Nat}
/-- the call of a method that never ends -/
theorem NM.call {y : MethodName} {ws : List Cond} {rm : Room} {P : Array Value → State → Prop} {bytes : ByteArray} {maxL : Nat} {ret : Option FieldType} (hM : NM l y (headSpec ws rm) P)
    {U : State} (X : Stand p l e R s m args below meth c U locs cells slots) {g : JFrame} (hg : g.method = m) (hsize : g.locals.size = c.maxLocals) {ig : Instr} {len : Nat} (hdg : decode c.code g.pc = .ok (ig, len))
    (hW : 2 * g.monitorRoom + (g.stack.map fun v => v.category).sum ≤ 8) {mk : MethodId} (hn : U.methodNamed? y = some mk) (a : Array Value)
    (hfr : rm.frames + 1 ≤ R.frames) (hlo : 8 + (maxL + 11) + rm.locals ≤ R.locals) (hce : cells + rm.cells ≤ R.cells) (hsl : slots + rm.slots ≤ R.slots)
    (hws : ∀ w ∈ ws, w.before a U = true) (hcode : Cond.code y bytes maxL ret ∈ ws) (hini : (Cond.initialized y.cls).before a U = true)
    (hP : P a (U.calling g mk a)) : nv p.tables e below (doInvoke e (U.setTop g) [] mk a).1 := by
  obtain ⟨methY, cY, hmY, hcY, -, hlY, -, -, -, -⟩ := Cond.code_spec hn (hws _ hcode)
  obtain ⟨kY, hkY, -⟩ := className_of_methodNamed hn
  have hinitY : kY.init = .initialized := Cond.initialized_spec (findClass_of_methodNamed hn) hkY hini
  have h : At U g.method c below := by rw [hg]; exact X.here
  have happ : (headSpec ws rm).appliesLoose y e.platform (U.calling g mk a) = true :=
    Spec.appliesLoose_calling (g := g) h hdg hn hkY hinitY (X.room_calling (g := g) (R' := (headSpec ws rm).room) hsize hmY hcY hfr (by rw [hlY]; show _ + rm.locals ≤ _; omega) hce hsl) (atoms_intro hws)
  obtain ⟨mid, hmid⟩ := h.above
  have hfrm : (U.setTop g).frames = (.java g :: mid) ++ below := by rw [State.frames_setTop' g h.top, hmid]; rfl
  obtain ⟨t, ht, -⟩ := State.frames_cons (show (U.setTop g).frames = .java g :: (mid ++ below) from hfrm)
  have hlt : (U.setTop g).cur < (U.setTop g).threads.size := (Array.getElem?_eq_some_iff.mp ht).1
  have hf' : (U.calling g mk a).frames = .invoking mk a :: (U.setTop g).frames := State.frames_setFrames _ hlt
  obtain ⟨hrun, hable, halone, -⟩ := (Spec.appliesLoose_iff hf').mp happ
  have hgo : (U.calling g mk a).goesOn := ⟨hrun, hable, halone⟩
  have hnv := hM p e X.admits X.cas X.clock (U.calling g mk a) mk a (U.setTop g).frames hf' happ hP
  have hstep : (stepThread p.tables e (U.calling g mk a)).1 = (doInvoke e (U.setTop g) [] mk a).1 := by
    rw [stepThread_invoking hf', doInvoke_state e (U.setTop g), State.calling, State.pushFrame, State.setFrames_setFrames, State.setFrames_self ht]
  intro n
  have h1 := hnv (n + 1)
  rw [stepsAlone_succ _ hgo, hstep, hfrm] at h1
  exact h1.weaken
/-- a constructor that never ends -/
theorem W.nvI {own : String} {index : Nat} {y : MethodName} {ws : List Cond} {rm : Room} {P : Array Value → State → Prop} {bytes cc : ByteArray} {maxL nL : Nat} (hM : NM l y (headSpec ws rm) P)
    (hexec : p.tables.exec = Jvm.exec) (hb : c.code = cc) (hml : c.maxLocals = nL) (hown : s.vm.findClass own = some m.cls) (hy1 : y.name = "<init>") (hlink : (Cond.methodLink own index y).before args s = true) (hinst : (Cond.instanceMethod y).before args s = true)
    (hy : y.cls ≠ "java/lang/invoke/MethodHandle" ∧ y.cls ≠ "java/lang/invoke/VarHandle") (hini : (Cond.initialized y.cls).before args s = true)
    (hws : ∀ w ∈ ws, ∀ (a' : Array Value) (U : State), s.WarmedH U.vm → w.before a' U = true) (hcode : Cond.code y bytes maxL none ∈ ws)
    {pc : Nat} {ls : Array Slot} (hsize : ls.size = nL) {a : Addr} {rest : List Value} (hlen : ∀ sig, parseMethodDescriptor y.desc = some sig → 0 = sig.parameters.length)
    (hW : (rest.map fun v => v.category).sum ≤ 8) (hdg : decode cc pc = .ok (.invokespecial index, 3))
    (hfr : rm.frames + 1 ≤ R.frames) (hlo : 8 + (maxL + 11) + rm.locals ≤ R.locals) (hce : cells + rm.cells ≤ R.cells) (hsl : slots + rm.slots ≤ R.slots)
    (hP : ∀ (U : State) (g : JFrame) (mk : MethodId), U.heap = H → s.WarmedH U.vm → P #[Value.ref a] (U.calling g mk #[Value.ref a])) :
    W p l e R s m args below meth c H locs cells slots (nv p.tables e below) (F0 m pc ls (.ref a :: rest)) := by
  intro T hT X
  have hpl : e.platform.magicAccessors = ({} : Platform).magicAccessors := by rw [X.admits.platform]
  have hcs : (Cond.code y bytes maxL none).before args s = true := hws _ hcode args s (State.WarmedH.refl s)
  obtain ⟨mk, methM, cM, kP, vm₁, hnamed, hmethM, hcodeM, -, hlocalsM, -, hkP, -, hW₁, hstep₁⟩ := Steps.initColdArgs (e := e) X.here hexec X.warmed hpl hown hy1 hy hlink hinst hcs (f := F0 m pc ls (.ref a :: rest)) rfl (argsL := []) hlen rfl (by rw [hb]; exact hdg)
  have X₁ := X.noted hW₁
  refine ⟨_, hstep₁ _ (fun acts => by rw [doInvoke_state]; exact Steps.refl _), ?_⟩
  refine NM.call hM (bytes := bytes) (maxL := maxL) (ret := none) X₁ (g := F0 m pc ls rest) rfl (by show ls.size = _; rw [hsize, hml]) (by rw [hb]; exact hdg) (lv_room hW) (X₁.named hnamed) #[Value.ref a] hfr hlo hce hsl (fun w hw => hws w hw _ _ hW₁) hcode (word_at hW₁ (Or.inl (by first | rfl | simp [Cond.onTables, Cond.keeps, Cond.steady])) hini) (hP _ _ _ hT hW₁)
/-- a method that never ends, by a virtual call whose name is inherited -/
theorem W.nvU {own C owner : String} {index : Nat} {x y : MethodName} {ws : List Cond} {rm : Room} {P : Array Value → State → Prop} {bytes cc : ByteArray} {maxL nL : Nat} {ret : Option FieldType} (hM : NM l y (headSpec ws rm) P)
    (hexec : p.tables.exec = Jvm.exec) (hb : c.code = cc) (hml : c.maxLocals = nL) (hown : s.vm.findClass own = some m.cls) (hlink : (Cond.methodLink own index x).before args s = true) (hsame : (Cond.sameMethod x.cls owner x.name x.desc).before args s = true)
    (hd0 : va_Decl s ⟨owner, x.name, x.desc⟩) (howner : owner ≠ "java/lang/invoke/MethodHandle" ∧ owner ≠ "java/lang/invoke/VarHandle")
    (hsel : (Cond.selects C x y).before args s = true) (hinst : (Cond.instanceMethod y).before args s = true) (hini : (Cond.initialized y.cls).before args s = true)
    (hws : ∀ w ∈ ws, ∀ (a' : Array Value) (U : State), s.WarmedH U.vm → w.before a' U = true) (hcode : Cond.code y bytes maxL ret ∈ ws)
    {b : Addr} {cellB : Cell} (hcell : H[b]? = some cellB) (hobj : cellB.vm.isStatics = false) (hcls : s.vm.findClass C = some cellB.cls)
    {pc : Nat} {ls : Array Slot} (hsize : ls.size = nL) {rest : List Value} (hlen : ∀ sig, parseMethodDescriptor x.desc = some sig → 0 = sig.parameters.length)
    (hW : (rest.map fun v => v.category).sum ≤ 8) (hdg : decode cc pc = .ok (.invokevirtual index, 3))
    (hfr : rm.frames + 1 ≤ R.frames) (hlo : 8 + (maxL + 11) + rm.locals ≤ R.locals) (hce : cells + rm.cells ≤ R.cells) (hsl : slots + rm.slots ≤ R.slots)
    (hP : ∀ (U : State) (g : JFrame) (mk : MethodId), U.heap = H → s.WarmedH U.vm → P #[Value.ref b] (U.calling g mk #[Value.ref b])) :
    W p l e R s m args below meth c H locs cells slots (nv p.tables e below) (F0 m pc ls (.ref b :: rest)) := by
  intro T hT X
  obtain ⟨r0, r, hn, hrm, hstR, hsigR⟩ := hd0
  obtain ⟨cn, ck, r1, hcn, hck, hni, hf, hn1⟩ := Cond.sameMethod_found hsame
  cases hn.symm.trans hn1
  obtain ⟨mk, methM, hnamed, hmethM, -, habM⟩ := Cond.instanceMethod_spec hinst
  obtain ⟨c2, r2, m2, q1, q2, q3, q4, kP, hkP, hkPi⟩ := Cond.selects_spec hsel
  cases hcls.symm.trans q1
  cases hf.symm.trans q2
  cases hnamed.symm.trans q3
  have hselP : selectMethod e.platform s.vm cellB.cls r0 = .method mk := by rw [Launch.admits_selectMethod X.admits]; exact q4
  obtain ⟨vm₁, X₁, hstep₁⟩ := X.invokevirtualUp hexec hown hlink hsame howner hn hrm hstR (a := b) (cell := cellB) (by rw [hT]; exact hcell)
    (fun z h => by rw [h] at hobj; cases hobj) hselP hmethM habM hkP hkPi (g := F0 m pc ls (.ref b :: rest)) rfl (argsL := []) (rest := rest) (hlen _ hsigR) rfl (by rw [hb]; exact hdg)
  refine ⟨_, hstep₁ _ (fun acts => by rw [doInvoke_state]; exact Steps.refl _), ?_⟩
  refine NM.call hM (bytes := bytes) (maxL := maxL) (ret := ret) X₁ (g := F0 m pc ls rest) rfl (by show ls.size = _; rw [hsize, hml]) (by rw [hb]; exact hdg) (lv_room hW) (X₁.named hnamed) #[Value.ref b] hfr hlo hce hsl (fun w hw => hws w hw _ _ X₁.warmed) hcode (word_at X₁.warmed (Or.inl (by first | rfl | simp [Cond.onTables, Cond.keeps, Cond.steady])) hini) (hP _ _ _ hT X₁.warmed)
end NV
