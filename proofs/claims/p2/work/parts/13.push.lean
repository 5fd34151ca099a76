/-! TABLES WITH ONE CLASS MORE: what the plain words say stays -/
def pu (vm : Vm) (k : Class) : Vm := { vm with classes := vm.classes.push k }
theorem pu_cls {vm : Vm} {k : Class} {c : Nat} {K : Class} (h : vm.classes[c]? = some K) : (pu vm k).classes[c]? = some K := by
  have hi : c < vm.classes.size := (Array.getElem?_eq_some_iff.mp h).1
  show (vm.classes.push k)[c]? = some K
  rw [Array.getElem?_push, if_neg (Nat.ne_of_lt hi)]
  exact h
theorem pu_find {vm : Vm} {k : Class} {n : String} {c : Nat} (h : vm.findClass n = some c) : (pu vm k).findClass n = some c := by
  unfold Vm.findClass at h ⊢
  show (vm.classes.push k).findIdx? _ = some c
  rw [Array.findIdx?_push, h]
  rfl
section PU
variable {s s' : State} {k : Class} {a a' : Array Value}
theorem pu_one {n : String} {f : Class → Bool} (hv : s'.vm = pu s.vm k) (h : ((s.vm.findClass n).bind (s.vm.classes[·]?)).map f = some true) : ((s'.vm.findClass n).bind (s'.vm.classes[·]?)).map f = some true := by
  rw [hv]
  obtain ⟨K, h1, h2⟩ := Option.map_eq_some_iff.mp h
  obtain ⟨c, h3, h4⟩ := Option.bind_eq_some_iff.mp h1
  exact Option.map_eq_some_iff.mpr ⟨K, Option.bind_eq_some_iff.mpr ⟨c, pu_find h3, pu_cls h4⟩, h2⟩
theorem pu_two {n : String} {f : Class → Bool} (hv : s'.vm = pu s.vm k) (h : ((s.vm.findClass n).bind fun c => (s.vm.classes[c]?).map f) = some true) : ((s'.vm.findClass n).bind fun c => (s'.vm.classes[c]?).map f) = some true := by
  rw [hv]
  obtain ⟨c, h1, h2⟩ := Option.bind_eq_some_iff.mp h
  obtain ⟨K, h3, h4⟩ := Option.map_eq_some_iff.mp h2
  exact Option.bind_eq_some_iff.mpr ⟨c, pu_find h1, Option.map_eq_some_iff.mpr ⟨K, pu_cls h3, h4⟩⟩
theorem pu_named {x : MethodName} {m : MethodId} (hv : s'.vm = pu s.vm k) (h : s.methodNamed? x = some m) : s'.methodNamed? x = some m := by
  unfold State.methodNamed? at h ⊢
  simp only [Option.bind_eq_bind] at h ⊢
  rw [hv]
  obtain ⟨c, h1, h2⟩ := Option.bind_eq_some_iff.mp h
  obtain ⟨K, h3, h4⟩ := Option.bind_eq_some_iff.mp h2
  exact Option.bind_eq_some_iff.mpr ⟨c, pu_find h1, Option.bind_eq_some_iff.mpr ⟨K, pu_cls h3, h4⟩⟩
theorem pu_method {m : MethodId} {M : Method} (hv : s'.vm = pu s.vm k) (h : s.vm.method? m = some M) : s'.vm.method? m = some M := by
  unfold Vm.method? at h ⊢
  simp only [Option.bind_eq_bind] at h ⊢
  rw [hv]
  obtain ⟨K, h1, h2⟩ := Option.bind_eq_some_iff.mp h
  exact Option.bind_eq_some_iff.mpr ⟨K, pu_cls h1, h2⟩
theorem pu_meth {x : MethodName} {f : Method → Bool} (hv : s'.vm = pu s.vm k) (h : ((s.methodNamed? x).bind s.vm.method?).map f = some true) : ((s'.methodNamed? x).bind s'.vm.method?).map f = some true := by
  obtain ⟨M, h1, h2⟩ := Option.map_eq_some_iff.mp h
  obtain ⟨m, h3, h4⟩ := Option.bind_eq_some_iff.mp h1
  exact Option.map_eq_some_iff.mpr ⟨M, Option.bind_eq_some_iff.mpr ⟨m, pu_named hv h3, pu_method hv h4⟩, h2⟩
def pu_plain : Cond → Bool
  | .code .. | .static .. | .instanceMethod .. | .privateMethod .. | .native .. | .soleField .. | .initialized .. | .instantiable .. | .arrayClass .. => true
  | _ => false
theorem pu_val {w : Cond} {args : Array Value} {t : State} : w.before args t = true ↔ w.value args t none t [] = some true := by
  unfold Cond.before Cond.holds
  exact beq_iff_eq
theorem pu_word (hv : s'.vm = pu s.vm k) {w : Cond} (hw : pu_plain w = true) (h : w.before a s = true) : w.before a' s' = true := by
  rw [pu_val] at h ⊢
  cases w <;> first
    | (simp only [Cond.value] at h ⊢; first | exact pu_meth hv h | exact pu_two hv h | exact pu_one hv h)
    | exact absurd hw (by simp [pu_plain])
theorem pu_words {l : List Cond} (hv : s'.vm = pu s.vm k) (h0 : ∀ c ∈ l, c.before a s = true) (h1 : l.all (fun c => pu_plain c || c.before a' s') = true) : ∀ c ∈ l, c.before a' s' = true := by
  intro c hc
  have h := List.all_eq_true.mp h1 c hc
  cases hq : pu_plain c with
  | false => simpa [hq] using h
  | true => exact pu_word hv hq (h0 c hc)
end PU
