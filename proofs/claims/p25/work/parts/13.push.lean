/-! TABLES WITH ONE CLASS MORE: what the plain words say stays -/
def pu (vm : Vm) (k : Class) : Vm := { vm with classes := vm.classes.push k }
theorem pu_cls {vm : Vm} {k : Class} {c : Nat} {K : Class} (h : vm.classes[c]? = some K) : (pu vm k).classes[c]? = some K := by
  have hi : c < vm.classes.size := (Array.getElem?_eq_some_iff.mp h).1
  show (vm.classes.push k)[c]? = some K
  rw [Array.getElem?_push, if_neg (Nat.ne_of_lt hi)]
  exact h
theorem pu_find {vm : Vm} {k : Class} {n : String} {c : Nat} (h : vm.findClass n = some c) : (pu vm k).findClass n = some c := by
  unfold Vm.findClass at h ⊢
  show (vm.classes.push k).findIdx? _ = some c
  rw [Array.findIdx?_push, h]
  rfl
section PU
variable {s s' : State} {k : Class} {a a' : Array Value}
theorem pu_one {n : String} {f : Class → Bool} (hv : s'.vm = pu s.vm k) (h : ((s.vm.findClass n).bind (s.vm.classes[·]?)).map f = some true) : ((s'.vm.findClass n).bind (s'.vm.classes[·]?)).map f = some true := by
  rw [hv]
  obtain ⟨K, h1, h2⟩ := Option.map_eq_some_iff.mp h
  obtain ⟨c, h3, h4⟩ := Option.bind_eq_some_iff.mp h1
  exact Option.map_eq_some_iff.mpr ⟨K, Option.bind_eq_some_iff.mpr ⟨c, pu_find h3, pu_cls h4⟩, h2⟩
theorem pu_two {n : String} {f : Class → Bool} (hv : s'.vm = pu s.vm k) (h : ((s.vm.findClass n).bind fun c => (s.vm.classes[c]?).map f) = some true) : ((s'.vm.findClass n).bind fun c => (s'.vm.classes[c]?).map f) = some true := by
  rw [hv]
  obtain ⟨c, h1, h2⟩ := Option.bind_eq_some_iff.mp h
  obtain ⟨K, h3, h4⟩ := Option.map_eq_some_iff.mp h2
  exact Option.bind_eq_some_iff.mpr ⟨c, pu_find h1, Option.map_eq_some_iff.mpr ⟨K, pu_cls h3, h4⟩⟩
theorem pu_named {x : MethodName} {m : MethodId} (hv : s'.vm = pu s.vm k) (h : s.methodNamed? x = some m) : s'.methodNamed? x = some m := by
  unfold State.methodNamed? at h ⊢
  simp only [Option.bind_eq_bind] at h ⊢
  rw [hv]
  obtain ⟨c, h1, h2⟩ := Option.bind_eq_some_iff.mp h
  obtain ⟨K, h3, h4⟩ := Option.bind_eq_some_iff.mp h2
  exact Option.bind_eq_some_iff.mpr ⟨c, pu_find h1, Option.bind_eq_some_iff.mpr ⟨K, pu_cls h3, h4⟩⟩
theorem pu_method {m : MethodId} {M : Method} (hv : s'.vm = pu s.vm k) (h : s.vm.method? m = some M) : s'.vm.method? m = some M := by
  unfold Vm.method? at h ⊢
  simp only [Option.bind_eq_bind] at h ⊢
  rw [hv]
  obtain ⟨K, h1, h2⟩ := Option.bind_eq_some_iff.mp h
  exact Option.bind_eq_some_iff.mpr ⟨K, pu_cls h1, h2⟩
theorem pu_meth {x : MethodName} {f : Method → Bool} (hv : s'.vm = pu s.vm k) (h : ((s.methodNamed? x).bind s.vm.method?).map f = some true) : ((s'.methodNamed? x).bind s'.vm.method?).map f = some true := by
  obtain ⟨M, h1, h2⟩ := Option.map_eq_some_iff.mp h
  obtain ⟨m, h3, h4⟩ := Option.bind_eq_some_iff.mp h1
  exact Option.map_eq_some_iff.mpr ⟨M, Option.bind_eq_some_iff.mpr ⟨m, pu_named hv h3, pu_method hv h4⟩, h2⟩
def pu_plain : Cond → Bool
  | .code .. | .static .. | .instanceMethod .. | .privateMethod .. | .native .. | .soleField .. | .initialized .. | .instantiable .. | .arrayClass .. => true
  | _ => false
theorem pu_val {w : Cond} {args : Array Value} {t : State} : w.before args t = true ↔ w.value args t none t [] = some true := by
  unfold Cond.before Cond.holds
  exact beq_iff_eq
theorem pu_word (hv : s'.vm = pu s.vm k) {w : Cond} (hw : pu_plain w = true) (h : w.before a s = true) : w.before a' s' = true := by
  rw [pu_val] at h ⊢
  cases w <;> first
    | (simp only [Cond.value] at h ⊢; first | exact pu_meth hv h | exact pu_two hv h | exact pu_one hv h)
    | exact absurd hw (by simp [pu_plain])
theorem pu_words {l : List Cond} (hv : s'.vm = pu s.vm k) (h0 : ∀ c ∈ l, c.before a s = true) (h1 : l.all (fun c => pu_plain c || c.before a' s') = true) : ∀ c ∈ l, c.before a' s' = true := by
  intro c hc
  have h := List.all_eq_true.mp h1 c hc
  cases hq : pu_plain c with
  | false => simpa [hq] using h
  | true => exact pu_word hv hq (h0 c hc)
end PU
section PV
variable {s s' : State} {k : Class} {a a' : Array Value}
theorem pu_pool {cls : String} {P : ConstantPool} (hv : s'.vm = pu s.vm k) (h : s.poolOf? cls = some P) : s'.poolOf? cls = some P := by
  unfold State.poolOf? at h ⊢
  simp only [Option.bind_eq_bind] at h ⊢
  rw [hv]
  obtain ⟨c, h1, h2⟩ := Option.bind_eq_some_iff.mp h
  obtain ⟨K, h3, h4⟩ := Option.bind_eq_some_iff.mp h2
  exact Option.bind_eq_some_iff.mpr ⟨c, pu_find h1, Option.bind_eq_some_iff.mpr ⟨K, pu_cls h3, h4⟩⟩
theorem pu_names {cls : String} {i : Nat} {what : Names} (hv : s'.vm = pu s.vm k) (h : s.names cls i what = true) : s'.names cls i what = true := by
  unfold State.names at h ⊢
  obtain ⟨P, h1, h2⟩ := Option.bind_eq_some_iff.mp (of_decide_eq_true h)
  exact decide_eq_true (Option.bind_eq_some_iff.mpr ⟨P, pu_pool hv h1, h2⟩)
theorem pu_member {cls : String} {i : Nat} {q : Nat × Bool} (hv : s'.vm = pu s.vm k) (h : s.memberEntry? cls i = some q) : s'.memberEntry? cls i = some q := by
  unfold State.memberEntry? at h ⊢
  simp only [Option.bind_eq_bind] at h ⊢
  obtain ⟨P, h1, h2⟩ := Option.bind_eq_some_iff.mp h
  exact Option.bind_eq_some_iff.mpr ⟨P, pu_pool hv h1, h2⟩
theorem pu_res {cls : String} {i : Nat} {x : Option Resolved} (hv : s'.vm = pu s.vm k) (h : ((s.vm.findClass cls).bind (s.vm.classes[·]?)).bind (·.resolved[i]?) = some x) : ((s'.vm.findClass cls).bind (s'.vm.classes[·]?)).bind (·.resolved[i]?) = some x := by
  rw [hv]
  obtain ⟨K, h1, h2⟩ := Option.bind_eq_some_iff.mp h
  obtain ⟨c, h3, h4⟩ := Option.bind_eq_some_iff.mp h1
  exact Option.bind_eq_some_iff.mpr ⟨K, Option.bind_eq_some_iff.mpr ⟨c, pu_find h3, pu_cls h4⟩, h2⟩
theorem pu_open {cls : String} {i : Nat} {r : Resolved} (hv : s'.vm = pu s.vm k) (h : s.openOr cls i r = true) : s'.openOr cls i r = true := by
  unfold State.openOr at h ⊢
  cases hE : ((s.vm.findClass cls).bind (s.vm.classes[·]?)).bind (·.resolved[i]?) with
  | none => rw [hE] at h; cases h
  | some x =>
    rw [pu_res hv hE]
    rw [hE] at h
    exact h
theorem pu_clinks {cls n : String} {i d c : Nat} {dk ck : Class} (hv : s'.vm = pu s.vm k) (h2 : s.vm.findClass cls = some d) (h3 : s.vm.findClass n = some c) (hd : s.vm.classes[d]? = some dk) (hc : s.vm.classes[c]? = some ck) (ha : s'.vm.classAccessible {} ck dk = true) (h : s.classLinks cls i n = some true) : s'.classLinks cls i n = some true := by
  have e2 : s'.vm.findClass cls = some d := by rw [hv]; exact pu_find h2
  have e3 : s'.vm.findClass n = some c := by rw [hv]; exact pu_find h3
  have ed : s'.vm.classes[d]? = some dk := by rw [hv]; exact pu_cls hd
  have ec : s'.vm.classes[c]? = some ck := by rw [hv]; exact pu_cls hc
  unfold State.classLinks at h ⊢
  rw [h2, h3] at h
  rw [e2, e3]
  simp only [hd, hc, Option.bind_eq_bind, Option.bind_some, Option.pure_def, Option.some.injEq, Bool.and_eq_true] at h
  simp only [ed, ec, Option.bind_eq_bind, Option.bind_some, Option.pure_def, Option.some.injEq, Bool.and_eq_true]
  exact ⟨⟨pu_names hv h.1.1, pu_open hv h.1.2⟩, ha⟩
/-- what is decided anew of a link: what its name finds, and the access -/
def pu_chk (s s' : State) : Cond → Bool
  | .methodLink cls _ x => match s.vm.findClass cls, s.vm.findClass x.cls, s.methodFound? x.cls x.name x.desc with
    | some d, some c, some m => match s.vm.classes[d]?, s.vm.classes[c]?, s.vm.classes[m.cls]?, s.vm.method? m with
      | some dk, some ck, some mcl, some meth => decide (s'.methodFound? x.cls x.name x.desc = some m) && (s'.vm.classAccessible {} ck dk && (plainAccess s'.vm meth.accessFlags m.cls mcl c d dk || (ck.isArray && x.name == "clone" && m.cls != c)))
      | _, _, _, _ => false
    | _, _, _ => false
  | .fieldLink cls _ ref name desc => match s.vm.findClass cls, s.vm.findClass ref, s.fieldFound? ref name desc with
    | some d, some t, some (c, fk, i, f) => match s.vm.classes[d]?, s.vm.classes[t]? with
      | some dk, some tk => decide ((s'.fieldFound? ref name desc).map (fun q => (q.1, q.2.2.1)) = some (c, i)) && (s'.vm.classAccessible {} tk dk && plainAccess s'.vm f.accessFlags c fk t d dk)
      | _, _ => false
    | _, _, _ => false
  | .constant .. | .constantLong .. | .stringRef .. => true
  | w => pu_plain w
theorem pu_ff {ref name desc : String} {c i : Nat} {fk : Class} {f : Field} (hv : s'.vm = pu s.vm k) (h : s.fieldFound? ref name desc = some (c, fk, i, f)) (h' : (s'.fieldFound? ref name desc).map (fun q => (q.1, q.2.2.1)) = some (c, i)) : s'.fieldFound? ref name desc = some (c, fk, i, f) := by
  obtain ⟨⟨c', fk', i', f'⟩, h1, h2⟩ := Option.map_eq_some_iff.mp h'
  have n1 : c = c' := (congrArg Prod.fst h2).symm
  have n2 : i = i' := (congrArg Prod.snd h2).symm
  subst n1
  subst n2
  have g : s.vm.classes[c]? = some fk ∧ fk.fields[i]? = some f := by
    unfold State.fieldFound? at h
    simp only [Option.bind_eq_bind] at h
    obtain ⟨ty, -, h⟩ := Option.bind_eq_some_iff.mp h
    obtain ⟨cc, -, h⟩ := Option.bind_eq_some_iff.mp h
    obtain ⟨q, -, h⟩ := Option.bind_eq_some_iff.mp h
    obtain ⟨K, h5, h⟩ := Option.bind_eq_some_iff.mp h
    obtain ⟨F, h6, h⟩ := Option.bind_eq_some_iff.mp h
    cases h
    exact ⟨h5, h6⟩
  have g' : s'.vm.classes[c]? = some fk' ∧ fk'.fields[i]? = some f' := by
    unfold State.fieldFound? at h1
    simp only [Option.bind_eq_bind] at h1
    obtain ⟨ty, -, h1⟩ := Option.bind_eq_some_iff.mp h1
    obtain ⟨cc, -, h1⟩ := Option.bind_eq_some_iff.mp h1
    obtain ⟨q, -, h1⟩ := Option.bind_eq_some_iff.mp h1
    obtain ⟨K, h5, h1⟩ := Option.bind_eq_some_iff.mp h1
    obtain ⟨F, h6, h1⟩ := Option.bind_eq_some_iff.mp h1
    cases h1
    exact ⟨h5, h6⟩
  have e : s'.vm.classes[c]? = some fk := by rw [hv]; exact pu_cls g.1
  cases e.symm.trans g'.1
  cases g.2.symm.trans g'.2
  exact h1
theorem pu_mlink {cls : String} {index : Nat} {x : MethodName} (hv : s'.vm = pu s.vm k) (hw : pu_chk s s' (.methodLink cls index x) = true) (h : (Cond.methodLink cls index x).value a s none s [] = some true) : (Cond.methodLink cls index x).value a' s' none s' [] = some true := by
  simp only [Cond.value] at h ⊢
  simp only [pu_chk] at hw
  cases h1 : s.memberEntry? cls index with
  | none => rw [h1] at h; cases h
  | some q =>
    obtain ⟨ci, via⟩ := q
    cases h2 : s.vm.findClass cls with
    | none => rw [h1, h2] at h; cases h
    | some d =>
      cases h3 : s.vm.findClass x.cls with
      | none => rw [h1, h2, h3] at h; cases h
      | some c =>
        cases h4 : s.methodFound? x.cls x.name x.desc with
        | none => rw [h1, h2, h3, h4] at h; cases h
        | some m =>
          rw [h1, h2, h3, h4] at h
          rw [h2, h3, h4] at hw
          simp only [Option.bind_eq_bind] at h hw ⊢
          obtain ⟨linked, g1, h⟩ := Option.bind_eq_some_iff.mp h
          obtain ⟨dk, g2, h⟩ := Option.bind_eq_some_iff.mp h
          obtain ⟨ck, g3, h⟩ := Option.bind_eq_some_iff.mp h
          obtain ⟨mk, g4, h⟩ := Option.bind_eq_some_iff.mp h
          obtain ⟨meth, g5, h⟩ := Option.bind_eq_some_iff.mp h
          have h := Option.some.inj h
          rw [g2, g3, g4, g5] at hw
          simp only [Bool.and_eq_true, decide_eq_true_eq] at hw h
          obtain ⟨e4, e5, e6⟩ := hw
          obtain ⟨⟨⟨⟨⟨⟨⟨f1, f2⟩, f3⟩, f4⟩, f5⟩, f6⟩, f7⟩, f8⟩ := h
          subst f1
          have e2 : s'.vm.findClass cls = some d := by rw [hv]; exact pu_find h2
          have e3 : s'.vm.findClass x.cls = some c := by rw [hv]; exact pu_find h3
          have d2 : s'.vm.classes[d]? = some dk := by rw [hv]; exact pu_cls g2
          have d3 : s'.vm.classes[c]? = some ck := by rw [hv]; exact pu_cls g3
          have d4 : s'.vm.classes[m.cls]? = some mk := by rw [hv]; exact pu_cls g4
          have d5 : s'.vm.method? m = some meth := pu_method hv g5
          rw [pu_member hv h1, e2, e3, e4]
          show (s'.classLinks cls ci x.cls).bind _ = some true
          rw [pu_clinks hv h2 h3 g2 g3 e5 g1]
          show (s'.vm.classes[d]?).bind _ = some true
          rw [d2]
          show (s'.vm.classes[c]?).bind _ = some true
          rw [d3]
          show (s'.vm.classes[m.cls]?).bind _ = some true
          rw [d4]
          show (s'.vm.method? m).bind _ = some true
          rw [d5]
          refine congrArg some ?_
          simp only [Bool.and_eq_true]
          exact ⟨⟨⟨⟨⟨⟨⟨trivial, pu_names hv f2⟩, pu_open hv f3⟩, f4⟩, f5⟩, f6⟩, f7⟩, e6⟩
theorem pu_flink {cls ref name desc : String} {index : Nat} (hv : s'.vm = pu s.vm k) (hw : pu_chk s s' (.fieldLink cls index ref name desc) = true) (h : (Cond.fieldLink cls index ref name desc).value a s none s [] = some true) : (Cond.fieldLink cls index ref name desc).value a' s' none s' [] = some true := by
  simp only [Cond.value] at h ⊢
  simp only [pu_chk] at hw
  cases h1 : s.memberEntry? cls index with
  | none => rw [h1] at h; cases h
  | some q =>
    obtain ⟨ci, via⟩ := q
    cases h2 : s.vm.findClass cls with
    | none => rw [h1, h2] at h; cases h
    | some d =>
      cases h4 : s.fieldFound? ref name desc with
      | none => rw [h1, h2, h4] at h; cases h
      | some q4 =>
        obtain ⟨c, fk, i, f⟩ := q4
        cases h3 : s.vm.findClass ref with
        | none => rw [h1, h2, h4, h3] at h; cases h
        | some t =>
          rw [h1, h2, h4, h3] at h
          rw [h2, h3, h4] at hw
          simp only [Option.bind_eq_bind] at h hw ⊢
          obtain ⟨linked, g1, h⟩ := Option.bind_eq_some_iff.mp h
          obtain ⟨dk, g2, h⟩ := Option.bind_eq_some_iff.mp h
          have h := Option.some.inj h
          rw [g2] at hw
          cases g3 : s.vm.classes[t]? with
          | none => rw [g3] at hw; cases hw
          | some tk =>
            rw [g3] at hw
            simp only [Bool.and_eq_true, decide_eq_true_eq] at hw h
            obtain ⟨e4, e5, e6⟩ := hw
            obtain ⟨⟨⟨⟨f1, f2⟩, f3⟩, f4⟩, f5⟩ := h
            subst f1
            have e2 : s'.vm.findClass cls = some d := by rw [hv]; exact pu_find h2
            have e3 : s'.vm.findClass ref = some t := by rw [hv]; exact pu_find h3
            have d2 : s'.vm.classes[d]? = some dk := by rw [hv]; exact pu_cls g2
            rw [pu_member hv h1, e2, pu_ff hv h4 e4, e3]
            show (s'.classLinks cls ci ref).bind _ = some true
            rw [pu_clinks hv h2 h3 g2 g3 e5 g1]
            show (s'.vm.classes[d]?).bind _ = some true
            rw [d2]
            refine congrArg some ?_
            simp only [Bool.and_eq_true]
            exact ⟨⟨⟨⟨trivial, pu_names hv f2⟩, pu_open hv f3⟩, f4⟩, e6⟩
theorem pu_con {cls : String} {i : Nat} {what : Names} (hv : s'.vm = pu s.vm k) (h : ((s.vm.findClass cls).map fun _ => s.names cls i what) = some true) : ((s'.vm.findClass cls).map fun _ => s'.names cls i what) = some true := by
  obtain ⟨c, h1, h2⟩ := Option.map_eq_some_iff.mp h
  exact Option.map_eq_some_iff.mpr ⟨c, by rw [hv]; exact pu_find h1, pu_names hv h2⟩
theorem pu_resAt {cls : String} {i : Nat} {x : Resolved} (hv : s'.vm = pu s.vm k) (h : s.resolvedAt? cls i = some x) : s'.resolvedAt? cls i = some x := by
  unfold State.resolvedAt? at h ⊢
  simp only [Option.bind_eq_bind] at h ⊢
  rw [hv]
  obtain ⟨c, h1, h2⟩ := Option.bind_eq_some_iff.mp h
  obtain ⟨K, h3, h4⟩ := Option.bind_eq_some_iff.mp h2
  exact Option.bind_eq_some_iff.mpr ⟨c, pu_find h1, Option.bind_eq_some_iff.mpr ⟨K, pu_cls h3, h4⟩⟩
theorem pu_str {cls text : String} {i : Nat} (hv : s'.vm = pu s.vm k) (h : (Cond.stringRef cls i text).value a s none s [] = some true) : (Cond.stringRef cls i text).value a' s' none s' [] = some true := by
  simp only [Cond.value] at h ⊢
  obtain ⟨c, h1, h2⟩ := Option.map_eq_some_iff.mp h
  rw [Bool.and_eq_true] at h2
  obtain ⟨h2, h3⟩ := h2
  refine Option.map_eq_some_iff.mpr ⟨c, by rw [hv]; exact pu_find h1, ?_⟩
  rw [Bool.and_eq_true]
  refine ⟨pu_names hv h2, ?_⟩
  cases hE : s.resolvedAt? cls i with
  | none => rw [hE] at h3; cases h3
  | some x =>
    rw [pu_resAt hv hE]
    rw [hE] at h3
    exact h3
theorem pu_all (hv : s'.vm = pu s.vm k) {w : Cond} (hw : pu_chk s s' w = true) (h : w.before a s = true) : w.before a' s' = true := by
  have h := pu_val.mp h
  cases w <;> first
    | exact pu_val.mpr (pu_mlink hv hw h)
    | exact pu_val.mpr (pu_flink hv hw h)
    | exact pu_val.mpr (pu_str hv h)
    | exact pu_val.mpr (by simp only [Cond.value] at h ⊢; exact pu_con hv h)
    | exact pu_word hv hw (pu_val.mpr h)
theorem pu_wordsC {l : List Cond} (hv : s'.vm = pu s.vm k) (h0 : ∀ c ∈ l, c.before a s = true) (h1 : l.all (fun c => pu_chk s s' c || c.before a' s') = true) : ∀ c ∈ l, c.before a' s' = true := by
  intro c hc
  have h := List.all_eq_true.mp h1 c hc
  cases hq : pu_chk s s' c with
  | false => simpa [hq] using h
  | true => exact pu_all hv hq (h0 c hc)
end PV
