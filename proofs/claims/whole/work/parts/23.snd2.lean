/-! SOUNDNESS: arithmetic, stack, branches -/
section
variable {mi pc : Nat}
theorem x_bin_nr {g : Int → Int → Int} : ∀ (X : xX) L S h q, x_bin g pc L S h ≠ some (.inr q) := by
  intro X L S h q e
  unfold x_bin at e
  split at e
  · exact xon_nr e
  · cases e
theorem snd_bin {g : Int → Int → Int} (hrow : ∀ (G : xG) (p : Program) (l : Launch) (e : Env) (R : Room) (s : State) (m : MethodId) (args : Array Value) (below : List Frame) (meth : Method) (c : Code) (Q : State → Prop) (n0 : Nat), xCx G mi n0 p s m args meth c → ∀ (H : Heap) (locs : List Loc) (ls : Array Slot) (cells slots : Nat) (st : List Value) (x y : Int), W p l e R s m args below meth c H locs cells slots Q (F0 m (pc + 1) ls (.int (Int32.ofInt (g x y)) :: st)) → W p l e R s m args below meth c H locs cells slots Q (F0 m pc ls (.int (Int32.ofInt y) :: .int (Int32.ofInt x) :: st))) : xSnd mi pc (fun _ => x_bin g) := by
  refine xSnd.on x_bin_nr (xSA.same ?_)
  intro G p l e R s m args below meth c Q n0 C L S h pc' L' S' h' hF
  unfold x_bin at hF
  split at hF
  · obtain ⟨rfl, rfl, rfl, rfl⟩ := xon_inj hF
    exact ⟨rfl, fun _ _ H locs ls cells slots hR hL hS k => hrow G p l e R s m args below meth c Q n0 C H locs ls cells slots _ _ _ (k ls hL)⟩
  · cases hF
theorem snd_iadd (hd : decode (x_cc mi) pc = .ok (.iadd, 1)) : xSnd mi pc (fun _ => x_bin (· + ·)) :=
  snd_bin (fun G p l e R s m args below meth c Q n0 C H locs ls cells slots st x y k => lv_iadd C.1 C.2.1 hd (by rw [← Int32.ofInt_add]; exact k))
theorem snd_isub (hd : decode (x_cc mi) pc = .ok (.isub, 1)) : xSnd mi pc (fun _ => x_bin (· - ·)) :=
  snd_bin (fun G p l e R s m args below meth c Q n0 C H locs ls cells slots st x y k => lv_isub C.1 C.2.1 hd (by rw [← Int32.ofInt_sub]; exact k))
theorem snd_imul (hd : decode (x_cc mi) pc = .ok (.imul, 1)) : xSnd mi pc (fun _ => x_bin (· * ·)) :=
  snd_bin (fun G p l e R s m args below meth c Q n0 C H locs ls cells slots st x y k => lv_imul C.1 C.2.1 hd (by rw [← Int32.ofInt_mul]; exact k))
theorem snd_iand (hd : decode (x_cc mi) pc = .ok (.iand, 1)) : xSnd mi pc (fun _ => x_bin xband) :=
  snd_bin (fun G p l e R s m args below meth c Q n0 C H locs ls cells slots st x y k => lv_iand C.1 C.2.1 hd (by unfold xband at k; rw [Int32.ofInt_toInt] at k; exact k))
theorem snd_ior (hd : decode (x_cc mi) pc = .ok (.ior, 1)) : xSnd mi pc (fun _ => x_bin xbor) :=
  snd_bin (fun G p l e R s m args below meth c Q n0 C H locs ls cells slots st x y k => lv_ior C.1 C.2.1 hd (by unfold xbor at k; rw [Int32.ofInt_toInt] at k; exact k))
theorem snd_ishl (hd : decode (x_cc mi) pc = .ok (.ishl, 1)) : xSnd mi pc (fun _ => x_bin xshl) :=
  snd_bin (fun G p l e R s m args below meth c Q n0 C H locs ls cells slots st x y k => lv_ishl C.1 C.2.1 hd (by unfold xshl at k; rw [Int32.ofInt_toInt] at k; exact k))
theorem snd_ishr (hd : decode (x_cc mi) pc = .ok (.ishr, 1)) : xSnd mi pc (fun _ => x_bin xshr) :=
  snd_bin (fun G p l e R s m args below meth c Q n0 C H locs ls cells slots st x y k => lv_ishr C.1 C.2.1 hd (by unfold xshr at k; rw [Int32.ofInt_toInt] at k; exact k))
theorem snd_iushr (hd : decode (x_cc mi) pc = .ok (.iushr, 1)) : xSnd mi pc (fun _ => x_bin xushr) :=
  snd_bin (fun G p l e R s m args below meth c Q n0 C H locs ls cells slots st x y k => lv_iushr C.1 C.2.1 hd rfl (by unfold xushr at k; rw [Int32.ofInt_toInt] at k; exact k))
theorem xI_div {x y : Int} (hx : xr x) (hy : xr y) (h1 : y ≠ -1) : Int32.ofInt x / Int32.ofInt y = Int32.ofInt (x.tdiv y) := by
  have e1 : (-1 : Int32) = Int32.ofInt (-1) := rfl
  apply Int32.toInt_inj.mp
  rw [Int32.toInt_div_of_ne_right _ _ (by rw [e1]; intro q; exact h1 ((xI_eq hy (by decide)).mp q)), Int32.toInt_ofInt_of_le (by omega) (by omega), Int32.toInt_ofInt_of_le (by omega) (by omega)]
  have hb : (x.tdiv y).natAbs ≤ x.natAbs := by rw [Int.natAbs_tdiv]; exact Nat.div_le_self _ _
  by_cases h0 : x = -2147483648
  · by_cases h2 : y = 0
    · subst h2
      simp
    · subst h0
      have h3 : 2 ≤ y.natAbs ∨ y = 1 := by omega
      rcases h3 with h3 | h3
      · have hb2 : ((-2147483648 : Int).tdiv y).natAbs ≤ 1073741824 := by
          rw [Int.natAbs_tdiv]
          have : (-2147483648 : Int).natAbs = 2147483648 := rfl
          rw [this]
          exact Nat.div_le_of_le_mul (by omega)
        rw [Int32.toInt_ofInt_of_le (by omega) (by omega)]
      · subst h3
        rw [Int.tdiv_one, Int32.toInt_ofInt_of_le (by omega) (by omega)]
  · rw [Int32.toInt_ofInt_of_le (by omega) (by omega)]
theorem x_div_nr : ∀ (X : xX) L S h q, x_div pc L S h ≠ some (.inr q) := by
  intro X L S h q e
  unfold x_div at e
  split at e
  · split at e
    · exact xon_nr e
    · cases e
  · cases e
theorem snd_idiv (hd : decode (x_cc mi) pc = .ok (.idiv, 1)) : xSnd mi pc (fun _ => x_div) := by
  refine xSnd.on x_div_nr (xSA.same ?_)
  intro G p l e R s m args below meth c Q n0 C L S h pc' L' S' h' hF
  unfold x_div at hF
  split at hF
  · split at hF
    · rename_i hq
      obtain ⟨rfl, rfl, rfl, rfl⟩ := xon_inj hF
      refine ⟨rfl, fun _ _ H locs ls cells slots hR hL hS k => lv_idiv C.1 C.2.1 hd (fun z => hq.2.2.1 ((xI_eq hq.2.1 xr0).mp z)) ?_⟩
      rw [xI_div hq.1 hq.2.1 hq.2.2.2]
      exact k ls hL
    · cases hF
  · cases hF
theorem x_rem_nr : ∀ (X : xX) L S h q, x_rem pc L S h ≠ some (.inr q) := by
  intro X L S h q e
  unfold x_rem at e
  split at e
  · split at e
    · exact xon_nr e
    · cases e
  · cases e
theorem snd_irem (hd : decode (x_cc mi) pc = .ok (.irem, 1)) : xSnd mi pc (fun _ => x_rem) := by
  refine xSnd.on x_rem_nr (xSA.same ?_)
  intro G p l e R s m args below meth c Q n0 C L S h pc' L' S' h' hF
  unfold x_rem at hF
  split at hF
  · split at hF
    · rename_i y x S0 hq
      obtain ⟨rfl, rfl, rfl, rfl⟩ := xon_inj hF
      refine ⟨rfl, fun _ _ H locs ls cells slots hR hL hS k => lv_irem C.1 C.2.1 hd (fun z => hq.2.2.1 ((xI_eq hq.2.1 xr0).mp z)) ?_⟩
      rw [xI_div hq.1 hq.2.1 hq.2.2.2, ← Int32.ofInt_mul, ← Int32.ofInt_sub]
      have e1 : x - x.tdiv y * y = x.tmod y := by
        have := Int.mul_tdiv_add_tmod x y
        have h2 : x.tdiv y * y = y * x.tdiv y := Int.mul_comm _ _
        omega
      rw [e1]
      exact k ls hL
    · cases hF
  · cases hF
theorem x_neg_nr : ∀ (X : xX) L S h q, x_neg pc L S h ≠ some (.inr q) := by
  intro X L S h q e
  unfold x_neg at e
  split at e
  · exact xon_nr e
  · cases e
theorem snd_ineg (hd : decode (x_cc mi) pc = .ok (.ineg, 1)) : xSnd mi pc (fun _ => x_neg) := by
  refine xSnd.on x_neg_nr (xSA.same ?_)
  intro G p l e R s m args below meth c Q n0 C L S h pc' L' S' h' hF
  unfold x_neg at hF
  split at hF
  · obtain ⟨rfl, rfl, rfl, rfl⟩ := xon_inj hF
    refine ⟨rfl, fun _ _ H locs ls cells slots hR hL hS k => lv_ineg C.1 C.2.1 hd ?_⟩
    rw [← Int32.ofInt_neg]
    exact k ls hL
  · cases hF
theorem x_binl_nr {g : Int → Int → Int} : ∀ (X : xX) L S h q, x_binl g pc L S h ≠ some (.inr q) := by
  intro X L S h q e
  unfold x_binl at e
  split at e
  · exact xon_nr e
  · cases e
theorem snd_binl {g : Int → Int → Int} (hrow : ∀ (G : xG) (p : Program) (l : Launch) (e : Env) (R : Room) (s : State) (m : MethodId) (args : Array Value) (below : List Frame) (meth : Method) (c : Code) (Q : State → Prop) (n0 : Nat), xCx G mi n0 p s m args meth c → ∀ (H : Heap) (locs : List Loc) (ls : Array Slot) (cells slots : Nat) (st : List Value) (x y : Int), W p l e R s m args below meth c H locs cells slots Q (F0 m (pc + 1) ls (.long (Int64.ofInt (g x y)) :: st)) → W p l e R s m args below meth c H locs cells slots Q (F0 m pc ls (.long (Int64.ofInt y) :: .long (Int64.ofInt x) :: st))) : xSnd mi pc (fun _ => x_binl g) := by
  refine xSnd.on x_binl_nr (xSA.same ?_)
  intro G p l e R s m args below meth c Q n0 C L S h pc' L' S' h' hF
  unfold x_binl at hF
  split at hF
  · obtain ⟨rfl, rfl, rfl, rfl⟩ := xon_inj hF
    exact ⟨rfl, fun _ _ H locs ls cells slots hR hL hS k => hrow G p l e R s m args below meth c Q n0 C H locs ls cells slots _ _ _ (k ls hL)⟩
  · cases hF
theorem snd_ladd (hd : decode (x_cc mi) pc = .ok (.ladd, 1)) : xSnd mi pc (fun _ => x_binl (· + ·)) :=
  snd_binl (fun G p l e R s m args below meth c Q n0 C H locs ls cells slots st x y k => lv_ladd C.1 C.2.1 hd (by rw [← Int64.ofInt_add]; exact k))
theorem snd_lsub (hd : decode (x_cc mi) pc = .ok (.lsub, 1)) : xSnd mi pc (fun _ => x_binl (· - ·)) :=
  snd_binl (fun G p l e R s m args below meth c Q n0 C H locs ls cells slots st x y k => lv_lsub C.1 C.2.1 hd (by rw [← Int64.ofInt_sub]; exact k))
theorem snd_lmul (hd : decode (x_cc mi) pc = .ok (.lmul, 1)) : xSnd mi pc (fun _ => x_binl (· * ·)) :=
  snd_binl (fun G p l e R s m args below meth c Q n0 C H locs ls cells slots st x y k => lv_lmul C.1 C.2.1 hd (by rw [← Int64.ofInt_mul]; exact k))
theorem xL_div {x y : Int} (hx : xrl x) (hy : xrl y) (h1 : x ≠ -9223372036854775808) : Int64.ofInt x / Int64.ofInt y = Int64.ofInt (x.tdiv y) := by
  have e1 : Int64.minValue = Int64.ofInt (-9223372036854775808) := rfl
  apply Int64.toInt_inj.mp
  rw [Int64.toInt_div_of_ne_left _ _ (by rw [e1]; intro q; exact h1 ((xL_eq hx (by decide)).mp q)), Int64.toInt_ofInt_of_le (by omega) (by omega), Int64.toInt_ofInt_of_le (by omega) (by omega)]
  have hb : (x.tdiv y).natAbs ≤ x.natAbs := by rw [Int.natAbs_tdiv]; exact Nat.div_le_self _ _
  rw [Int64.toInt_ofInt_of_le (by omega) (by omega)]
theorem x_ldiv_nr : ∀ (X : xX) L S h q, x_ldiv pc L S h ≠ some (.inr q) := by
  intro X L S h q e
  unfold x_ldiv at e
  split at e
  · split at e
    · exact xon_nr e
    · cases e
  · cases e
theorem snd_ldiv (hd : decode (x_cc mi) pc = .ok (.ldiv, 1)) : xSnd mi pc (fun _ => x_ldiv) := by
  refine xSnd.on x_ldiv_nr (xSA.same ?_)
  intro G p l e R s m args below meth c Q n0 C L S h pc' L' S' h' hF
  unfold x_ldiv at hF
  split at hF
  · split at hF
    · rename_i hq
      obtain ⟨rfl, rfl, rfl, rfl⟩ := xon_inj hF
      refine ⟨rfl, fun _ _ H locs ls cells slots hR hL hS k => lv_ldiv C.1 C.2.1 hd (fun z => hq.2.2.1 ((xL_eq hq.2.1 (by decide)).mp z)) ?_⟩
      rw [xL_div hq.1 hq.2.1 hq.2.2.2]
      exact k ls hL
    · cases hF
  · cases hF
theorem x_i2l_nr : ∀ (X : xX) L S h q, x_i2l pc L S h ≠ some (.inr q) := by
  intro X L S h q e
  unfold x_i2l at e
  split at e
  · split at e
    · exact xon_nr e
    · cases e
  · cases e
theorem snd_i2l (hd : decode (x_cc mi) pc = .ok (.i2l, 1)) : xSnd mi pc (fun _ => x_i2l) := by
  refine xSnd.on x_i2l_nr (xSA.same ?_)
  intro G p l e R s m args below meth c Q n0 C L S h pc' L' S' h' hF
  unfold x_i2l at hF
  split at hF
  · split at hF
    · rename_i hq
      obtain ⟨rfl, rfl, rfl, rfl⟩ := xon_inj hF
      exact ⟨rfl, fun _ _ H locs ls cells slots hR hL hS k => lv_i2l C.1 C.2.1 hd (Int32.toInt64_ofInt hq.1 hq.2) (k ls hL)⟩
    · cases hF
  · cases hF
theorem x_l2i_nr : ∀ (X : xX) L S h q, x_l2i pc L S h ≠ some (.inr q) := by
  intro X L S h q e
  unfold x_l2i at e
  split at e
  · exact xon_nr e
  · cases e
theorem snd_l2i (hd : decode (x_cc mi) pc = .ok (.l2i, 1)) : xSnd mi pc (fun _ => x_l2i) := by
  refine xSnd.on x_l2i_nr (xSA.same ?_)
  intro G p l e R s m args below meth c Q n0 C L S h pc' L' S' h' hF
  unfold x_l2i at hF
  split at hF
  · obtain ⟨rfl, rfl, rfl, rfl⟩ := xon_inj hF
    exact ⟨rfl, fun _ _ H locs ls cells slots hR hL hS k => lv_l2i C.1 C.2.1 hd Int64.toInt32_ofInt (k ls hL)⟩
  · cases hF
theorem x_i2c_nr : ∀ (X : xX) L S h q, x_i2c pc L S h ≠ some (.inr q) := by
  intro X L S h q e
  unfold x_i2c at e
  split at e
  · exact xon_nr e
  · cases e
theorem snd_i2c (hd : decode (x_cc mi) pc = .ok (.i2c, 1)) : xSnd mi pc (fun _ => x_i2c) := by
  refine xSnd.on x_i2c_nr (xSA.same ?_)
  intro G p l e R s m args below meth c Q n0 C L S h pc' L' S' h' hF
  unfold x_i2c at hF
  split at hF
  · obtain ⟨rfl, rfl, rfl, rfl⟩ := xon_inj hF
    exact ⟨rfl, fun _ _ H locs ls cells slots hR hL hS k => lv_i2c C.1 C.2.1 hd (by unfold xi2c; rw [Int32.ofInt_toInt]) (k ls hL)⟩
  · cases hF
theorem x_lcmp_nr : ∀ (X : xX) L S h q, x_lcmp pc L S h ≠ some (.inr q) := by
  intro X L S h q e
  unfold x_lcmp at e
  split at e
  · split at e
    · exact xon_nr e
    · cases e
  · cases e
theorem snd_lcmp (hd : decode (x_cc mi) pc = .ok (.lcmp, 1)) : xSnd mi pc (fun _ => x_lcmp) := by
  refine xSnd.on x_lcmp_nr (xSA.same ?_)
  intro G p l e R s m args below meth c Q n0 C L S h pc' L' S' h' hF
  unfold x_lcmp at hF
  split at hF
  · split at hF
    · rename_i y x S0 hq
      obtain ⟨rfl, rfl, rfl, rfl⟩ := xon_inj hF
      refine ⟨rfl, fun _ _ H locs ls cells slots hR hL hS k => W.lcmp C.1 C.2.1 hd ?_⟩
      have e1 : lg_cmp (Int64.ofInt x) (Int64.ofInt y) = Int32.ofInt (xcmp x y) := by
        unfold lg_cmp xcmp
        by_cases h1 : x > y
        · rw [if_pos h1, if_pos ((xL_lt hq.2 hq.1).mpr h1)]; rfl
        · rw [if_neg h1, if_neg (fun z => h1 ((xL_lt hq.2 hq.1).mp z))]
          by_cases h2 : x = y
          · rw [if_pos h2, if_pos ((xL_eq hq.1 hq.2).mpr h2)]; rfl
          · rw [if_neg h2, if_neg (fun z => h2 ((xL_eq hq.1 hq.2).mp z))]; rfl
      rw [e1]
      exact k ls hL
    · cases hF
  · cases hF
theorem x_dup_nr : ∀ (X : xX) L S h q, x_dup pc L S h ≠ some (.inr q) := by
  intro X L S h q e
  unfold x_dup at e
  split at e
  · split at e
    · exact xon_nr e
    · cases e
  · cases e
theorem snd_dup (hd : decode (x_cc mi) pc = .ok (.dup, 1)) : xSnd mi pc (fun _ => x_dup) := by
  refine xSnd.on x_dup_nr (xSA.same ?_)
  intro G p l e R s m args below meth c Q n0 C L S h pc' L' S' h' hF
  unfold x_dup at hF
  split at hF
  · split at hF
    · rename_i hq
      obtain ⟨rfl, rfl, rfl, rfl⟩ := xon_inj hF
      exact ⟨rfl, fun _ _ H locs ls cells slots hR hL hS k => lv_dup C.1 C.2.1 hd (xc_cat1 hq) (k ls hL)⟩
    · cases hF
  · cases hF
theorem x_pop_nr : ∀ (X : xX) L S h q, x_pop pc L S h ≠ some (.inr q) := by
  intro X L S h q e
  unfold x_pop at e
  split at e
  · split at e
    · exact xon_nr e
    · cases e
  · cases e
theorem snd_pop (hd : decode (x_cc mi) pc = .ok (.pop, 1)) : xSnd mi pc (fun _ => x_pop) := by
  refine xSnd.on x_pop_nr (xSA.same ?_)
  intro G p l e R s m args below meth c Q n0 C L S h pc' L' S' h' hF
  unfold x_pop at hF
  split at hF
  · split at hF
    · rename_i hq
      obtain ⟨rfl, rfl, rfl, rfl⟩ := xon_inj hF
      exact ⟨rfl, fun _ _ H locs ls cells slots hR hL hS k => lv_pop C.1 C.2.1 hd (xc_cat1 hq) (k ls hL)⟩
    · cases hF
  · cases hF
theorem x_dup2_nr : ∀ (X : xX) L S h q, x_dup2 pc L S h ≠ some (.inr q) := by
  intro X L S h q e
  unfold x_dup2 at e
  split at e
  · split at e
    · exact xon_nr e
    · cases e
  · cases e
theorem snd_dup2 (hd : decode (x_cc mi) pc = .ok (.dup2, 1)) : xSnd mi pc (fun _ => x_dup2) := by
  refine xSnd.on x_dup2_nr (xSA.same ?_)
  intro G p l e R s m args below meth c Q n0 C L S h pc' L' S' h' hF
  unfold x_dup2 at hF
  split at hF
  · split at hF
    · rename_i hq
      obtain ⟨rfl, rfl, rfl, rfl⟩ := xon_inj hF
      exact ⟨rfl, fun _ _ H locs ls cells slots hR hL hS k => lv_dup2_11 C.1 C.2.1 hd (xc_cat1 hq.1) (xc_cat1 hq.2) (k ls hL)⟩
    · cases hF
  · cases hF
theorem x_if_nr {a t : Nat} : ∀ (X : xX) L S h q, x_if a t pc L S h ≠ some (.inr q) := by
  intro X L S h q e
  unfold x_if at e
  split at e
  · split at e
    · split at e <;> exact xon_nr e
    · cases e
  · cases e
theorem x_cmp_nr {a t : Nat} : ∀ (X : xX) L S h q, x_cmp a t pc L S h ≠ some (.inr q) := by
  intro X L S h q e
  unfold x_cmp at e
  split at e
  · split at e
    · split at e <;> exact xon_nr e
    · cases e
  · cases e
/-- the six comparisons of the machine -/
def xcondM (a : Nat) (x y : Int32) : Prop := match a with
  | 0 => x = y
  | 1 => x ≠ y
  | 2 => x < y
  | 3 => y ≤ x
  | 4 => y < x
  | _ => x ≤ y
theorem xcondM_iff {a : Nat} {x y : Int} (hx : xr x) (hy : xr y) : xcondM a (Int32.ofInt x) (Int32.ofInt y) ↔ xcondB a x y = true := by
  unfold xcondM xcondB
  match a with
  | 0 => simp [xI_eq hx hy]
  | 1 => simp [xI_eq hx hy]
  | 2 => simp [xI_lt hx hy]
  | 3 => simp [xI_le hy hx]
  | 4 => simp [xI_lt hy hx]
  | _ + 5 => simp [xI_le hx hy]
theorem snd_if {a t : Nat} (hrow : ∀ (G : xG) (p : Program) (l : Launch) (e : Env) (R : Room) (s : State) (m : MethodId) (args : Array Value) (below : List Frame) (meth : Method) (c : Code) (Q : State → Prop) (n0 : Nat), xCx G mi n0 p s m args meth c → ∀ (H : Heap) (locs : List Loc) (ls : Array Slot) (cells slots : Nat) (st : List Value) (x : Int32), (xcondM a x 0 → W p l e R s m args below meth c H locs cells slots Q (F0 m t ls st)) → (¬ xcondM a x 0 → W p l e R s m args below meth c H locs cells slots Q (F0 m (pc + 3) ls st)) → W p l e R s m args below meth c H locs cells slots Q (F0 m pc ls (.int x :: st))) : xSnd mi pc (fun _ => x_if a t) := by
  refine xSnd.on x_if_nr (xSA.same ?_)
  intro G p l e R s m args below meth c Q n0 C L S h pc' L' S' h' hF
  unfold x_if at hF
  split at hF
  · split at hF
    · rename_i hq
      split at hF
      · rename_i hc
        obtain ⟨rfl, rfl, rfl, rfl⟩ := xon_inj hF
        exact ⟨rfl, fun _ _ H locs ls cells slots hR hL hS k => hrow G p l e R s m args below meth c Q n0 C H locs ls cells slots _ _ (fun _ => k ls hL) (fun z => absurd ((xcondM_iff hq xr0).mpr hc) z)⟩
      · rename_i hc
        obtain ⟨rfl, rfl, rfl, rfl⟩ := xon_inj hF
        exact ⟨rfl, fun _ _ H locs ls cells slots hR hL hS k => hrow G p l e R s m args below meth c Q n0 C H locs ls cells slots _ _ (fun z => absurd ((xcondM_iff hq xr0).mp z) hc) (fun _ => k ls hL)⟩
    · cases hF
  · cases hF
theorem snd_cmp {a t : Nat} (hrow : ∀ (G : xG) (p : Program) (l : Launch) (e : Env) (R : Room) (s : State) (m : MethodId) (args : Array Value) (below : List Frame) (meth : Method) (c : Code) (Q : State → Prop) (n0 : Nat), xCx G mi n0 p s m args meth c → ∀ (H : Heap) (locs : List Loc) (ls : Array Slot) (cells slots : Nat) (st : List Value) (x y : Int32), (xcondM a x y → W p l e R s m args below meth c H locs cells slots Q (F0 m t ls st)) → (¬ xcondM a x y → W p l e R s m args below meth c H locs cells slots Q (F0 m (pc + 3) ls st)) → W p l e R s m args below meth c H locs cells slots Q (F0 m pc ls (.int y :: .int x :: st))) : xSnd mi pc (fun _ => x_cmp a t) := by
  refine xSnd.on x_cmp_nr (xSA.same ?_)
  intro G p l e R s m args below meth c Q n0 C L S h pc' L' S' h' hF
  unfold x_cmp at hF
  split at hF
  · split at hF
    · rename_i hq
      split at hF
      · rename_i hc
        obtain ⟨rfl, rfl, rfl, rfl⟩ := xon_inj hF
        exact ⟨rfl, fun _ _ H locs ls cells slots hR hL hS k => hrow G p l e R s m args below meth c Q n0 C H locs ls cells slots _ _ _ (fun _ => k ls hL) (fun z => absurd ((xcondM_iff hq.1 hq.2).mpr hc) z)⟩
      · rename_i hc
        obtain ⟨rfl, rfl, rfl, rfl⟩ := xon_inj hF
        exact ⟨rfl, fun _ _ H locs ls cells slots hR hL hS k => hrow G p l e R s m args below meth c Q n0 C H locs ls cells slots _ _ _ (fun z => absurd ((xcondM_iff hq.1 hq.2).mp z) hc) (fun _ => k ls hL)⟩
    · cases hF
  · cases hF
theorem snd_if_eq {t : Nat} (hd : decode (x_cc mi) pc = .ok (.ifCond .eq ((t : Int) - (pc : Int)), 3)) : xSnd mi pc (fun _ => x_if 0 t) :=
  snd_if (fun G p l e R s m args below meth c Q n0 C H locs ls cells slots st x kt kf => lv_if_eq (tgt := t) C.1 C.2.1 hd (by omega) kt kf)
theorem snd_cmp_eq {t : Nat} (hd : decode (x_cc mi) pc = .ok (.if_icmp .eq ((t : Int) - (pc : Int)), 3)) : xSnd mi pc (fun _ => x_cmp 0 t) :=
  snd_cmp (fun G p l e R s m args below meth c Q n0 C H locs ls cells slots st x y kt kf => lv_icmp_eq (tgt := t) C.1 C.2.1 hd (by omega) kt kf)
theorem snd_if_ne {t : Nat} (hd : decode (x_cc mi) pc = .ok (.ifCond .ne ((t : Int) - (pc : Int)), 3)) : xSnd mi pc (fun _ => x_if 1 t) :=
  snd_if (fun G p l e R s m args below meth c Q n0 C H locs ls cells slots st x kt kf => lv_if_ne (tgt := t) C.1 C.2.1 hd (by omega) kt (fun h => kf (fun z => z h)))
theorem snd_cmp_ne {t : Nat} (hd : decode (x_cc mi) pc = .ok (.if_icmp .ne ((t : Int) - (pc : Int)), 3)) : xSnd mi pc (fun _ => x_cmp 1 t) :=
  snd_cmp (fun G p l e R s m args below meth c Q n0 C H locs ls cells slots st x y kt kf => lv_icmp_ne (tgt := t) C.1 C.2.1 hd (by omega) kt (fun h => kf (fun z => z h)))
theorem snd_if_lt {t : Nat} (hd : decode (x_cc mi) pc = .ok (.ifCond .lt ((t : Int) - (pc : Int)), 3)) : xSnd mi pc (fun _ => x_if 2 t) :=
  snd_if (fun G p l e R s m args below meth c Q n0 C H locs ls cells slots st x kt kf => lv_if_lt (tgt := t) C.1 C.2.1 hd (by omega) kt kf)
theorem snd_cmp_lt {t : Nat} (hd : decode (x_cc mi) pc = .ok (.if_icmp .lt ((t : Int) - (pc : Int)), 3)) : xSnd mi pc (fun _ => x_cmp 2 t) :=
  snd_cmp (fun G p l e R s m args below meth c Q n0 C H locs ls cells slots st x y kt kf => lv_icmp_lt (tgt := t) C.1 C.2.1 hd (by omega) kt kf)
theorem snd_if_ge {t : Nat} (hd : decode (x_cc mi) pc = .ok (.ifCond .ge ((t : Int) - (pc : Int)), 3)) : xSnd mi pc (fun _ => x_if 3 t) :=
  snd_if (fun G p l e R s m args below meth c Q n0 C H locs ls cells slots st x kt kf => lv_if_ge (tgt := t) C.1 C.2.1 hd (by omega) kt kf)
theorem snd_cmp_ge {t : Nat} (hd : decode (x_cc mi) pc = .ok (.if_icmp .ge ((t : Int) - (pc : Int)), 3)) : xSnd mi pc (fun _ => x_cmp 3 t) :=
  snd_cmp (fun G p l e R s m args below meth c Q n0 C H locs ls cells slots st x y kt kf => lv_icmp_ge (tgt := t) C.1 C.2.1 hd (by omega) kt kf)
theorem snd_if_gt {t : Nat} (hd : decode (x_cc mi) pc = .ok (.ifCond .gt ((t : Int) - (pc : Int)), 3)) : xSnd mi pc (fun _ => x_if 4 t) :=
  snd_if (fun G p l e R s m args below meth c Q n0 C H locs ls cells slots st x kt kf => lv_if_gt (tgt := t) C.1 C.2.1 hd (by omega) kt kf)
theorem snd_cmp_gt {t : Nat} (hd : decode (x_cc mi) pc = .ok (.if_icmp .gt ((t : Int) - (pc : Int)), 3)) : xSnd mi pc (fun _ => x_cmp 4 t) :=
  snd_cmp (fun G p l e R s m args below meth c Q n0 C H locs ls cells slots st x y kt kf => lv_icmp_gt (tgt := t) C.1 C.2.1 hd (by omega) kt kf)
theorem snd_if_le {t : Nat} (hd : decode (x_cc mi) pc = .ok (.ifCond .le ((t : Int) - (pc : Int)), 3)) : xSnd mi pc (fun _ => x_if 5 t) :=
  snd_if (fun G p l e R s m args below meth c Q n0 C H locs ls cells slots st x kt kf => lv_if_le (tgt := t) C.1 C.2.1 hd (by omega) kt kf)
theorem snd_cmp_le {t : Nat} (hd : decode (x_cc mi) pc = .ok (.if_icmp .le ((t : Int) - (pc : Int)), 3)) : xSnd mi pc (fun _ => x_cmp 5 t) :=
  snd_cmp (fun G p l e R s m args below meth c Q n0 C H locs ls cells slots st x y kt kf => lv_icmp_le (tgt := t) C.1 C.2.1 hd (by omega) kt kf)
theorem snd_goto {t : Nat} (hd : decode (x_cc mi) pc = .ok (.goto ((t : Int) - (pc : Int)), 3)) : xSnd mi pc (fun _ => x_goto t) := by
  refine xSnd.on (fun X L S h q => xon_nr) (xSA.same ?_)
  intro G p l e R s m args below meth c Q n0 C L S h pc' L' S' h' hF
  obtain ⟨rfl, rfl, rfl, rfl⟩ := xon_inj hF
  exact ⟨rfl, fun _ _ H locs ls cells slots hR hL hS k => lv_goto C.1 C.2.1 hd (by omega) (k ls hL)⟩
theorem x_nnul_nr {t : Nat} : ∀ (X : xX) L S h q, x_nnul t pc L S h ≠ some (.inr q) := by
  intro X L S h q e
  unfold x_nnul at e
  split at e <;> first | exact xon_nr e | cases e
theorem snd_nnul {t : Nat} (hd : decode (x_cc mi) pc = .ok (.ifnonnull ((t : Int) - (pc : Int)), 3)) : xSnd mi pc (fun _ => x_nnul t) := by
  refine xSnd.on x_nnul_nr (xSA.same ?_)
  intro G p l e R s m args below meth c Q n0 C L S h pc' L' S' h' hF
  unfold x_nnul at hF
  split at hF
  · obtain ⟨rfl, rfl, rfl, rfl⟩ := xon_inj hF
    exact ⟨rfl, fun _ _ H locs ls cells slots hR hL hS k => lv_ifnonnullN C.1 C.2.1 hd (k ls hL)⟩
  · obtain ⟨rfl, rfl, rfl, rfl⟩ := xon_inj hF
    exact ⟨rfl, fun _ _ H locs ls cells slots hR hL hS k => lv_ifnonnull C.1 C.2.1 hd (by omega) (k ls hL)⟩
  · cases hF
end
