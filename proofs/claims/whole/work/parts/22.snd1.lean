/-! SOUNDNESS of the micro-ops that leave the heap alone -/
theorem xI_lt {x y : Int} (hx : xr x) (hy : xr y) : Int32.ofInt x < Int32.ofInt y ↔ x < y := by
  rw [Int32.lt_iff_toInt_lt, Int32.toInt_ofInt_of_le (by omega) (by omega), Int32.toInt_ofInt_of_le (by omega) (by omega)]
theorem xI_le {x y : Int} (hx : xr x) (hy : xr y) : Int32.ofInt x ≤ Int32.ofInt y ↔ x ≤ y := by
  rw [Int32.le_iff_toInt_le, Int32.toInt_ofInt_of_le (by omega) (by omega), Int32.toInt_ofInt_of_le (by omega) (by omega)]
theorem xI_eq {x y : Int} (hx : xr x) (hy : xr y) : Int32.ofInt x = Int32.ofInt y ↔ x = y := by
  rw [← Int32.toInt_inj, Int32.toInt_ofInt_of_le (by omega) (by omega), Int32.toInt_ofInt_of_le (by omega) (by omega)]
theorem xL_lt {x y : Int} (hx : xrl x) (hy : xrl y) : Int64.ofInt x < Int64.ofInt y ↔ x < y := by
  rw [Int64.lt_iff_toInt_lt, Int64.toInt_ofInt_of_le (by omega) (by omega), Int64.toInt_ofInt_of_le (by omega) (by omega)]
theorem xL_eq {x y : Int} (hx : xrl x) (hy : xrl y) : Int64.ofInt x = Int64.ofInt y ↔ x = y := by
  rw [← Int64.toInt_inj, Int64.toInt_ofInt_of_le (by omega) (by omega), Int64.toInt_ofInt_of_le (by omega) (by omega)]
theorem xI_0 : (0 : Int32) = Int32.ofInt 0 := rfl
theorem xr0 : xr 0 := by decide
theorem xI_nat {x : Int} {n : Nat} (h : xin x n) (hn : n < 2147483648) : (Int32.ofInt x).toNatClampNeg = x.toNat := Int32.toNatClampNeg_ofInt_of_le (by omega) (by omega)
theorem xI_in {x : Int} {n : Nat} (h : xin x n) (hn : n < 2147483648) : vp_in (Int32.ofInt x) n := by
  unfold vp_in
  rw [xI_nat h hn, xI_0, xI_lt (by omega) xr0]
  omega
theorem xon_inj {pc pc' : Nat} {L L' S S' : List xV} {h h' : xH} (e : xon pc L S h = some (.inl (pc', L', S', h'))) : pc' = pc ∧ L' = L ∧ S' = S ∧ h' = h := by
  cases e
  exact ⟨rfl, rfl, rfl, rfl⟩
theorem xon_nr {pc : Nat} {L S : List xV} {h : xH} {q : (Nat × List xV × Nat × List xV) ⊕ (Option xV)} : xon pc L S h ≠ some (.inr q) := fun e => by cases e
section
variable {mi pc : Nat}
theorem snd_ic {b : Int} {n : Nat} (hrow : ∀ (G : xG) (p : Program) (l : Launch) (e : Env) (R : Room) (s : State) (m : MethodId) (args : Array Value) (below : List Frame) (meth : Method) (c : Code) (Q : State → Prop) (n0 : Nat), xCx G mi n0 p s m args meth c → ∀ (H : Heap) (locs : List Loc) (ls : Array Slot) (cells slots : Nat) (st : List Value), W p l e R s m args below meth c H locs cells slots Q (F0 m (pc + n) ls (.int (Int32.ofInt b) :: st)) → W p l e R s m args below meth c H locs cells slots Q (F0 m pc ls st)) : xSnd mi pc (fun _ => x_ic b n) := by
  refine xSnd.on (fun X L S h q => xon_nr) (xSA.same ?_)
  intro G p l e R s m args below meth c Q n0 C L S h pc' L' S' h' hF
  obtain ⟨rfl, rfl, rfl, rfl⟩ := xon_inj hF
  exact ⟨rfl, fun _ _ H locs ls cells slots hR hL hS k => hrow G p l e R s m args below meth c Q n0 C H locs ls cells slots _ (k ls hL)⟩
theorem snd_iconst {b : Int} (hd : decode (x_cc mi) pc = .ok (.iconst b, 1)) : xSnd mi pc (fun _ => x_ic b 1) :=
  snd_ic (fun G p l e R s m args below meth c Q n0 C H locs ls cells slots st k => lv_iconst C.1 C.2.1 hd rfl k)
theorem snd_bipush {b : Int} (hd : decode (x_cc mi) pc = .ok (.bipush b, 2)) (hv : (Int8.ofInt b).toInt32 = Int32.ofInt b) : xSnd mi pc (fun _ => x_ic b 2) :=
  snd_ic (fun G p l e R s m args below meth c Q n0 C H locs ls cells slots st k => lv_bipush C.1 C.2.1 hd hv k)
theorem snd_sipush {b : Int} (hd : decode (x_cc mi) pc = .ok (.sipush b, 3)) (hv : (Int16.ofInt b).toInt32 = Int32.ofInt b) : xSnd mi pc (fun _ => x_ic b 3) :=
  snd_ic (fun G p l e R s m args below meth c Q n0 C H locs ls cells slots st k => lv_sipush C.1 C.2.1 hd hv k)
theorem snd_ldc {b : Int} {ix : Nat} (hd : decode (x_cc mi) pc = .ok (.ldc ix, 2)) (hw : Cond.constant (x_on (x_ow mi)) ix (Int32.ofInt b) ∈ x_tbl) : xSnd mi pc (fun _ => x_ic b 2) :=
  snd_ic (fun G p l e R s m args below meth c Q n0 C H locs ls cells slots st k => lv_ldc C.1 C.2.1 C.2.2.2.2.1 (C.2.2.2.2.2.1 _ hw) hd k)
theorem snd_ldcw {b : Int} {ix : Nat} (hd : decode (x_cc mi) pc = .ok (.ldc_w ix, 3)) (hw : Cond.constant (x_on (x_ow mi)) ix (Int32.ofInt b) ∈ x_tbl) : xSnd mi pc (fun _ => x_ic b 3) :=
  snd_ic (fun G p l e R s m args below meth c Q n0 C H locs ls cells slots st k => lv_ldcw C.1 C.2.1 C.2.2.2.2.1 (C.2.2.2.2.2.1 _ hw) hd k)
theorem snd_lc {b : Int} {n : Nat} (hrow : ∀ (G : xG) (p : Program) (l : Launch) (e : Env) (R : Room) (s : State) (m : MethodId) (args : Array Value) (below : List Frame) (meth : Method) (c : Code) (Q : State → Prop) (n0 : Nat), xCx G mi n0 p s m args meth c → ∀ (H : Heap) (locs : List Loc) (ls : Array Slot) (cells slots : Nat) (st : List Value), W p l e R s m args below meth c H locs cells slots Q (F0 m (pc + n) ls (.long (Int64.ofInt b) :: st)) → W p l e R s m args below meth c H locs cells slots Q (F0 m pc ls st)) : xSnd mi pc (fun _ => x_lc b n) := by
  refine xSnd.on (fun X L S h q => xon_nr) (xSA.same ?_)
  intro G p l e R s m args below meth c Q n0 C L S h pc' L' S' h' hF
  obtain ⟨rfl, rfl, rfl, rfl⟩ := xon_inj hF
  exact ⟨rfl, fun _ _ H locs ls cells slots hR hL hS k => hrow G p l e R s m args below meth c Q n0 C H locs ls cells slots _ (k ls hL)⟩
theorem snd_lconst0 (hd : decode (x_cc mi) pc = .ok (.lconst 0, 1)) : xSnd mi pc (fun _ => x_lc 0 1) :=
  snd_lc (fun G p l e R s m args below meth c Q n0 C H locs ls cells slots st k => lv_lconst C.1 C.2.1 hd rfl k)
theorem snd_lconst1 (hd : decode (x_cc mi) pc = .ok (.lconst 1, 1)) : xSnd mi pc (fun _ => x_lc 1 1) :=
  snd_lc (fun G p l e R s m args below meth c Q n0 C H locs ls cells slots st k => lv_lconst C.1 C.2.1 hd rfl k)
theorem snd_ldc2 {b : Int} {ix : Nat} (hd : decode (x_cc mi) pc = .ok (.ldc2_w ix, 3)) (hw : Cond.constantLong (x_on (x_ow mi)) ix (Int64.ofInt b) ∈ x_tbl) : xSnd mi pc (fun _ => x_lc b 3) :=
  snd_lc (fun G p l e R s m args below meth c Q n0 C H locs ls cells slots st k => lv_ldc2 C.1 C.2.1 C.2.2.2.2.1 (C.2.2.2.2.2.1 _ hw) hd k)
theorem x_il_nr {a n : Nat} : ∀ (X : xX) L S h q, x_il a n pc L S h ≠ some (.inr q) := by
  intro X L S h q e
  unfold x_il at e
  split at e
  · exact xon_nr e
  · cases e
theorem snd_il {a n : Nat} (hrow : ∀ (G : xG) (p : Program) (l : Launch) (e : Env) (R : Room) (s : State) (m : MethodId) (args : Array Value) (below : List Frame) (meth : Method) (c : Code) (Q : State → Prop) (n0 : Nat), xCx G mi n0 p s m args meth c → ∀ (H : Heap) (locs : List Loc) (ls : Array Slot) (cells slots : Nat) (st : List Value) (x : Int32), ls[a]? = some (.val (.int x)) → W p l e R s m args below meth c H locs cells slots Q (F0 m (pc + n) ls (.int x :: st)) → W p l e R s m args below meth c H locs cells slots Q (F0 m pc ls st)) : xSnd mi pc (fun _ => x_il a n) := by
  refine xSnd.on x_il_nr (xSA.same ?_)
  intro G p l e R s m args below meth c Q n0 C L S h pc' L' S' h' hF
  unfold x_il at hF
  split at hF
  · rename_i x hx
    obtain ⟨rfl, rfl, rfl, rfl⟩ := xon_inj hF
    exact ⟨rfl, fun _ _ H locs ls cells slots hR hL hS k => hrow G p l e R s m args below meth c Q n0 C H locs ls cells slots _ _ (hL.at hx (by simp)) (k ls hL)⟩
  · cases hF
theorem snd_iload {a : Nat} (hd : decode (x_cc mi) pc = .ok (.iload a, 2)) : xSnd mi pc (fun _ => x_il a 2) :=
  snd_il (fun G p l e R s m args below meth c Q n0 C H locs ls cells slots st x hx k => lv_iload C.1 C.2.1 hd hx k)
theorem snd_iload_n {a : Fin 4} (hd : decode (x_cc mi) pc = .ok (.iload_n a, 1)) : xSnd mi pc (fun _ => x_il a.val 1) :=
  snd_il (fun G p l e R s m args below meth c Q n0 C H locs ls cells slots st x hx k => lv_iload_n C.1 C.2.1 hd rfl hx k)
theorem x_ll_nr {a n : Nat} : ∀ (X : xX) L S h q, x_ll a n pc L S h ≠ some (.inr q) := by
  intro X L S h q e
  unfold x_ll at e
  split at e
  · exact xon_nr e
  · cases e
theorem snd_ll {a n : Nat} (hrow : ∀ (G : xG) (p : Program) (l : Launch) (e : Env) (R : Room) (s : State) (m : MethodId) (args : Array Value) (below : List Frame) (meth : Method) (c : Code) (Q : State → Prop) (n0 : Nat), xCx G mi n0 p s m args meth c → ∀ (H : Heap) (locs : List Loc) (ls : Array Slot) (cells slots : Nat) (st : List Value) (x : Int64), ls[a]? = some (.val (.long x)) → W p l e R s m args below meth c H locs cells slots Q (F0 m (pc + n) ls (.long x :: st)) → W p l e R s m args below meth c H locs cells slots Q (F0 m pc ls st)) : xSnd mi pc (fun _ => x_ll a n) := by
  refine xSnd.on x_ll_nr (xSA.same ?_)
  intro G p l e R s m args below meth c Q n0 C L S h pc' L' S' h' hF
  unfold x_ll at hF
  split at hF
  · rename_i x hx
    obtain ⟨rfl, rfl, rfl, rfl⟩ := xon_inj hF
    exact ⟨rfl, fun _ _ H locs ls cells slots hR hL hS k => hrow G p l e R s m args below meth c Q n0 C H locs ls cells slots _ _ (hL.at hx (by simp)) (k ls hL)⟩
  · cases hF
theorem snd_lload {a : Nat} (hd : decode (x_cc mi) pc = .ok (.lload a, 2)) : xSnd mi pc (fun _ => x_ll a 2) :=
  snd_ll (fun G p l e R s m args below meth c Q n0 C H locs ls cells slots st x hx k => lv_lload C.1 C.2.1 hd hx k)
theorem snd_lload_n {a : Fin 4} (hd : decode (x_cc mi) pc = .ok (.lload_n a, 1)) : xSnd mi pc (fun _ => x_ll a.val 1) :=
  snd_ll (fun G p l e R s m args below meth c Q n0 C H locs ls cells slots st x hx k => lv_lload_n C.1 C.2.1 hd rfl hx k)
theorem x_al_nr {a n : Nat} : ∀ (X : xX) L S h q, x_al a n pc L S h ≠ some (.inr q) := by
  intro X L S h q e
  unfold x_al at e
  split at e <;> first | exact xon_nr e | cases e
theorem snd_al {a n : Nat} (hrow : ∀ (G : xG) (p : Program) (l : Launch) (e : Env) (R : Room) (s : State) (m : MethodId) (args : Array Value) (below : List Frame) (meth : Method) (c : Code) (Q : State → Prop) (n0 : Nat), xCx G mi n0 p s m args meth c → ∀ (H : Heap) (locs : List Loc) (ls : Array Slot) (cells slots : Nat) (st : List Value) (x : Option Nat), ls[a]? = some (.val (va_rf x)) → W p l e R s m args below meth c H locs cells slots Q (F0 m (pc + n) ls (va_rf x :: st)) → W p l e R s m args below meth c H locs cells slots Q (F0 m pc ls st)) : xSnd mi pc (fun _ => x_al a n) := by
  refine xSnd.on x_al_nr (xSA.same ?_)
  intro G p l e R s m args below meth c Q n0 C L S h pc' L' S' h' hF
  unfold x_al at hF
  split at hF
  · rename_i r hx
    obtain ⟨rfl, rfl, rfl, rfl⟩ := xon_inj hF
    refine ⟨rfl, fun _ _ H locs ls cells slots hR hL hS k => ?_⟩
    have e1 : xc G (.inr (.inr (.inl r))) = va_rf (r.map (G.N + ·)) := by cases r <;> rfl
    have e2 := hL.at hx (by simp)
    rw [e1] at e2
    refine hrow G p l e R s m args below meth c Q n0 C H locs ls cells slots _ _ e2 ?_
    rw [← e1]
    exact k ls hL
  · rename_i r hx
    obtain ⟨rfl, rfl, rfl, rfl⟩ := xon_inj hF
    exact ⟨rfl, fun _ _ H locs ls cells slots hR hL hS k => hrow G p l e R s m args below meth c Q n0 C H locs ls cells slots _ (G.ea r) (hL.at hx (by simp)) (k ls hL)⟩
  · rename_i r hx
    obtain ⟨rfl, rfl, rfl, rfl⟩ := xon_inj hF
    exact ⟨rfl, fun _ _ H locs ls cells slots hR hL hS k => hrow G p l e R s m args below meth c Q n0 C H locs ls cells slots _ (some (G.sa r)) (hL.at hx (by simp)) (k ls hL)⟩
  · cases hF
theorem snd_aload {a : Nat} (hd : decode (x_cc mi) pc = .ok (.aload a, 2)) : xSnd mi pc (fun _ => x_al a 2) :=
  snd_al (fun G p l e R s m args below meth c Q n0 C H locs ls cells slots st x hx k => by
    cases x with
    | none => exact lv_aloadN C.1 C.2.1 hd hx k
    | some x => exact lv_aload C.1 C.2.1 hd hx k)
theorem snd_aload_n {a : Fin 4} (hd : decode (x_cc mi) pc = .ok (.aload_n a, 1)) : xSnd mi pc (fun _ => x_al a.val 1) :=
  snd_al (fun G p l e R s m args below meth c Q n0 C H locs ls cells slots st x hx k => by
    cases x with
    | none => exact lv_aload_nN C.1 C.2.1 hd rfl hx k
    | some x => exact lv_aload_n C.1 C.2.1 hd rfl hx k)
theorem x_is_nr {a n : Nat} : ∀ (X : xX) L S h q, x_is a n pc L S h ≠ some (.inr q) := by
  intro X L S h q e
  unfold x_is at e
  split at e
  · split at e
    · exact xon_nr e
    · cases e
  · cases e
theorem snd_is {a n : Nat} (hrow : ∀ (G : xG) (p : Program) (l : Launch) (e : Env) (R : Room) (s : State) (m : MethodId) (args : Array Value) (below : List Frame) (meth : Method) (c : Code) (Q : State → Prop) (n0 : Nat), xCx G mi n0 p s m args meth c → ∀ (H : Heap) (locs : List Loc) (ls : Array Slot) (cells slots : Nat) (st : List Value) (x : Int32) (nL : Nat) (lv lv' : List (Nat × Value)), lv_has ls nL lv → a < nL → (a, Value.int x) :: lv.filter (fun q => !(q.1 == a) && !(q.1 + 1 == a && q.2.category == 2)) = lv' → (∀ ls' : Array Slot, lv_has ls' nL lv' → W p l e R s m args below meth c H locs cells slots Q (F0 m (pc + n) ls' st)) → W p l e R s m args below meth c H locs cells slots Q (F0 m pc ls (.int x :: st))) : xSnd mi pc (fun _ => x_is a n) := by
  refine xSnd.on x_is_nr (xSA.same ?_)
  intro G p l e R s m args below meth c Q n0 C L S h pc' L' S' h' hF
  unfold x_is at hF
  split at hF
  · split at hF
    · rename_i ha
      obtain ⟨rfl, rfl, rfl, rfl⟩ := xon_inj hF
      exact ⟨rfl, fun _ _ H locs ls cells slots hR hL hS k => hrow G p l e R s m args below meth c Q n0 C H locs ls cells slots _ _ _ _ _ hL.1 (by rw [← hL.2]; exact ha) rfl (fun ls' h' => k ls' (xLR_st1 hL.2 h'))⟩
    · cases hF
  · cases hF
theorem snd_istore {a : Nat} (hd : decode (x_cc mi) pc = .ok (.istore a, 2)) : xSnd mi pc (fun _ => x_is a 2) :=
  snd_is (fun G p l e R s m args below meth c Q n0 C H locs ls cells slots st x nL lv lv' h1 h2 h3 k => lv_istore C.1 C.2.1 hd h1 h2 h3 k)
theorem snd_istore_n {a : Fin 4} (hd : decode (x_cc mi) pc = .ok (.istore_n a, 1)) : xSnd mi pc (fun _ => x_is a.val 1) :=
  snd_is (fun G p l e R s m args below meth c Q n0 C H locs ls cells slots st x nL lv lv' h1 h2 h3 k => lv_istore_n C.1 C.2.1 hd rfl h1 h2 h3 k)
theorem x_ls_nr {a n : Nat} : ∀ (X : xX) L S h q, x_ls a n pc L S h ≠ some (.inr q) := by
  intro X L S h q e
  unfold x_ls at e
  split at e
  · split at e
    · exact xon_nr e
    · cases e
  · cases e
theorem snd_ls {a n : Nat} (hrow : ∀ (G : xG) (p : Program) (l : Launch) (e : Env) (R : Room) (s : State) (m : MethodId) (args : Array Value) (below : List Frame) (meth : Method) (c : Code) (Q : State → Prop) (n0 : Nat), xCx G mi n0 p s m args meth c → ∀ (H : Heap) (locs : List Loc) (ls : Array Slot) (cells slots : Nat) (st : List Value) (x : Int64) (nL : Nat) (lv lv' : List (Nat × Value)), lv_has ls nL lv → a + 1 < nL → (a, Value.long x) :: lv.filter (fun q => !(q.1 == a) && (!(q.1 == a + 1) && !(q.1 + 1 == a && q.2.category == 2))) = lv' → (∀ ls' : Array Slot, lv_has ls' nL lv' → W p l e R s m args below meth c H locs cells slots Q (F0 m (pc + n) ls' st)) → W p l e R s m args below meth c H locs cells slots Q (F0 m pc ls (.long x :: st))) : xSnd mi pc (fun _ => x_ls a n) := by
  refine xSnd.on x_ls_nr (xSA.same ?_)
  intro G p l e R s m args below meth c Q n0 C L S h pc' L' S' h' hF
  unfold x_ls at hF
  split at hF
  · split at hF
    · rename_i ha
      obtain ⟨rfl, rfl, rfl, rfl⟩ := xon_inj hF
      exact ⟨rfl, fun _ _ H locs ls cells slots hR hL hS k => hrow G p l e R s m args below meth c Q n0 C H locs ls cells slots _ _ _ _ _ hL.1 (by rw [← hL.2]; exact ha) rfl (fun ls' h' => k ls' (xLR_st2 hL.2 h'))⟩
    · cases hF
  · cases hF
theorem snd_lstore {a : Nat} (hd : decode (x_cc mi) pc = .ok (.lstore a, 2)) : xSnd mi pc (fun _ => x_ls a 2) :=
  snd_ls (fun G p l e R s m args below meth c Q n0 C H locs ls cells slots st x nL lv lv' h1 h2 h3 k => lv_lstore C.1 C.2.1 hd h1 h2 h3 k)
theorem snd_lstore_n {a : Fin 4} (hd : decode (x_cc mi) pc = .ok (.lstore_n a, 1)) : xSnd mi pc (fun _ => x_ls a.val 1) :=
  snd_ls (fun G p l e R s m args below meth c Q n0 C H locs ls cells slots st x nL lv lv' h1 h2 h3 k => lv_lstore_n C.1 C.2.1 hd rfl h1 h2 h3 k)
theorem x_as_nr {a n : Nat} : ∀ (X : xX) L S h q, x_as a n pc L S h ≠ some (.inr q) := by
  intro X L S h q e
  unfold x_as at e
  split at e
  · split at e
    · exact xon_nr e
    · cases e
  · cases e
theorem snd_as {a n : Nat} (hrow : ∀ (G : xG) (p : Program) (l : Launch) (e : Env) (R : Room) (s : State) (m : MethodId) (args : Array Value) (below : List Frame) (meth : Method) (c : Code) (Q : State → Prop) (n0 : Nat), xCx G mi n0 p s m args meth c → ∀ (H : Heap) (locs : List Loc) (ls : Array Slot) (cells slots : Nat) (st : List Value) (x : Option Nat) (nL : Nat) (lv lv' : List (Nat × Value)), lv_has ls nL lv → a < nL → (a, va_rf x) :: lv.filter (fun q => !(q.1 == a) && !(q.1 + 1 == a && q.2.category == 2)) = lv' → (∀ ls' : Array Slot, lv_has ls' nL lv' → W p l e R s m args below meth c H locs cells slots Q (F0 m (pc + n) ls' st)) → W p l e R s m args below meth c H locs cells slots Q (F0 m pc ls (va_rf x :: st))) : xSnd mi pc (fun _ => x_as a n) := by
  refine xSnd.on x_as_nr (xSA.same ?_)
  intro G p l e R s m args below meth c Q n0 C L S h pc' L' S' h' hF
  unfold x_as at hF
  split at hF
  · rename_i r S0
    split at hF
    · rename_i ha
      obtain ⟨rfl, rfl, rfl, rfl⟩ := xon_inj hF
      refine ⟨rfl, fun _ _ H locs ls cells slots hR hL hS k => ?_⟩
      have e1 : xc G (.inr (.inr (.inl r))) = va_rf (r.map (G.N + ·)) := by cases r <;> rfl
      show W p l e R s m args below meth c H locs cells slots Q (F0 m pc ls (xc G (.inr (.inr (.inl r))) :: List.map (xc G) S'))
      rw [e1]
      refine hrow G p l e R s m args below meth c Q n0 C H locs ls cells slots _ _ _ _ _ hL.1 (by rw [← hL.2]; exact ha) rfl (fun ls' h' => k ls' (xLR_st1 hL.2 ?_))
      rw [e1]
      exact h'
    · cases hF
  · cases hF
theorem snd_astore {a : Nat} (hd : decode (x_cc mi) pc = .ok (.astore a, 2)) : xSnd mi pc (fun _ => x_as a 2) :=
  snd_as (fun G p l e R s m args below meth c Q n0 C H locs ls cells slots st x nL lv lv' h1 h2 h3 k => by
    cases x with
    | none => exact lv_astoreN C.1 C.2.1 hd h1 h2 h3 k
    | some x => exact lv_astore C.1 C.2.1 hd h1 h2 h3 k)
theorem snd_astore_n {a : Fin 4} (hd : decode (x_cc mi) pc = .ok (.astore_n a, 1)) : xSnd mi pc (fun _ => x_as a.val 1) :=
  snd_as (fun G p l e R s m args below meth c Q n0 C H locs ls cells slots st x nL lv lv' h1 h2 h3 k => by
    cases x with
    | none => exact lv_astore_nN C.1 C.2.1 hd rfl h1 h2 h3 k
    | some x => exact lv_astore_n C.1 C.2.1 hd rfl h1 h2 h3 k)
theorem x_inc_nr {a n : Nat} {b : Int} : ∀ (X : xX) L S h q, x_inc a b n pc L S h ≠ some (.inr q) := by
  intro X L S h q e
  unfold x_inc at e
  split at e
  · exact xon_nr e
  · cases e
theorem snd_inc {a : Nat} {b : Int} (hd : decode (x_cc mi) pc = .ok (.iinc a b, 3)) : xSnd mi pc (fun _ => x_inc a b 3) := by
  refine xSnd.on x_inc_nr (xSA.same ?_)
  intro G p l e R s m args below meth c Q n0 C L S h pc' L' S' h' hF
  unfold x_inc at hF
  split at hF
  · rename_i x hx
    obtain ⟨rfl, rfl, rfl, rfl⟩ := xon_inj hF
    refine ⟨rfl, fun _ _ H locs ls cells slots hR hL hS k => ?_⟩
    have hm : (a, Value.int (Int32.ofInt x)) ∈ xlv G L := xlv_mem.mpr ⟨_, hx, by simp, rfl⟩
    obtain ⟨k0, hk0⟩ := List.getElem?_of_mem hm
    have ha : a < x_ml mi := by rw [← hL.2]; exact (List.getElem?_eq_some_iff.mp hx).1
    exact lv_iinc C.1 C.2.1 hd hL.1 hk0 (by rw [← Int32.ofInt_add]) ha rfl (fun ls' h' => k ls' (xLR_st1 hL.2 h'))
  · cases hF
end
