/-! THE RELATION between the abstract machine and the kit's: values, cells, heap, locals -/
/-- the tables' numbers, the array classes, the first new address, the outer arrays' and texts' addresses, what the outer arrays hold -/
abbrev xG : Type := va_G × (Nat → ClassId) × Nat × (Nat → Option Nat) × (Nat → Nat) × xX
abbrev xG.D (G : xG) : va_G := G.1
abbrev xG.ca (G : xG) : Nat → ClassId := G.2.1
abbrev xG.N (G : xG) : Nat := G.2.2.1
abbrev xG.ea (G : xG) : Nat → Option Nat := G.2.2.2.1
abbrev xG.sa (G : xG) : Nat → Nat := G.2.2.2.2.1
abbrev xG.X (G : xG) : xX := G.2.2.2.2.2
def xc (G : xG) (v : xV) : Value := match v with
  | .inl x => .int (Int32.ofInt x)
  | .inr (.inl x) => .long (Int64.ofInt x)
  | .inr (.inr (.inl none)) => .null
  | .inr (.inr (.inl (some k))) => .ref (G.N + k)
  | .inr (.inr (.inr (.inl j))) => va_rf (G.ea j)
  | .inr (.inr (.inr (.inr (.inl j)))) => .ref (G.sa j)
  | .inr (.inr (.inr (.inr (.inr _)))) => .null
def xce (G : xG) (c : xC) : va_E := match c with
  | .inl (ci, fs) => .inr (ci, fs.map (xc G))
  | .inr (.inl (k, n, f)) => if k = 2 then .inl (G.ca 2, n, .inr (.inl (fun j => Int64.ofInt (f j)))) else .inl (G.ca k, n, .inl (fun j => Int32.ofInt (f j)))
  | .inr (.inr (n, f)) => .inl (G.ca 4, n, .inr (.inr (.inr (.inr (fun j => (f j).map (G.N + ·))))))
def xtys (G : xG) : List (ClassId × FieldType) := [(G.ca 0, .int), (G.ca 1, .boolean), (G.ca 2, .long), (G.ca 4, .object "FilmPrinter$State")]
def xA (G : xG) : Nat → Prop := fun q => G.N ≤ q
def xws (G : xG) (h : xH) : va_W := (List.range h.2.1).map (fun k => (G.N + k, xce G ((h.1 k).getD (c_A 0 0 (fun _ => 0)))))
def xRel (G : xG) (h : xH) (H : Heap) : Prop := (∀ k, (h.1 k).isSome = true ↔ k < h.2.1) ∧ va_P G.D x_cls (xws G h) H ∧ H.size = G.N + h.2.1
theorem xws_len (G : xG) (h : xH) : (xws G h).length = h.2.1 := by simp [xws]
theorem xws_get {G : xG} {h : xH} {k : Nat} {c : xC} (hk : k < h.2.1) (hc : h.1 k = some c) : (xws G h)[k]? = some (G.N + k, xce G c) := by
  simp [xws, hk, hc]
theorem xws_D (G : xG) (h : xH) : va_D (xA G) (xws G h) := by
  refine ⟨fun i j p q hp hq e => ?_, fun k q hq => ?_⟩
  · simp only [xws, List.getElem?_map, Option.map_eq_some_iff] at hp hq
    obtain ⟨a, ha, rfl⟩ := hp
    obtain ⟨b, hb, rfl⟩ := hq
    have h1 := List.getElem?_eq_some_iff.mp ha
    have h2 := List.getElem?_eq_some_iff.mp hb
    obtain ⟨q1, r1⟩ := h1
    obtain ⟨q2, r2⟩ := h2
    simp at r1 r2 e
    omega
  · simp only [xws, List.getElem?_map, Option.map_eq_some_iff] at hq
    obtain ⟨a, ha, rfl⟩ := hq
    simp [xA]
theorem xws_set {G : xG} {h : xH} {k : Nat} (c : xC) : (xws G h).set k (G.N + k, xce G c) = xws G (xset h k c) := by
  apply List.ext_getElem?
  intro i
  rw [List.getElem?_set]
  by_cases hi : k = i
  · subst hi
    simp only [if_true, xws_len]
    by_cases hl : k < h.2.1
    · simp [xws, xset, xup, hl]
    · simp [xws, xset, hl]
  · simp only [if_neg hi, xws, xset, xup, List.getElem?_map]
    by_cases hl : i < h.2.1
    · simp [hl, Ne.symm hi]
    · simp [hl]
theorem xws_new {G : xG} {h : xH} (c : xC) (sz : Nat) : xws G h ++ [(G.N + h.2.1, xce G c)] = xws G (xnew h c sz) := by
  simp only [xws, xnew, List.range_succ, List.map_append, List.map_cons, List.map_nil]
  congr 1
  · apply List.map_congr_left
    intro k hk
    have : k < h.2.1 := List.mem_range.mp hk
    have h2 : k ≠ h.2.1 := by omega
    simp [xup, h2]
  · simp [xup]
theorem xRel.lt {G : xG} {h : xH} {H : Heap} (R : xRel G h H) {k : Nat} {c : xC} (hc : h.1 k = some c) : k < h.2.1 := (R.1 k).mp (by rw [hc]; rfl)
theorem xRel.at {G : xG} {h : xH} {H : Heap} (R : xRel G h H) {k : Nat} {c : xC} (hc : h.1 k = some c) : (xws G h)[k]? = some (G.N + k, xce G c) := xws_get (R.lt hc) hc
theorem xset_some {h : xH} {k : Nat} {c : xC} (hk : k < h.2.1) (ha : ∀ k, (h.1 k).isSome = true ↔ k < h.2.1) : ∀ j, ((xset h k c).1 j).isSome = true ↔ j < (xset h k c).2.1 := by
  intro j
  by_cases hj : j = k
  · subst hj; simp [xset, xup, hk]
  · simp [xset, xup, hj, ha j]
theorem xnew_some {h : xH} {c : xC} {sz : Nat} (ha : ∀ k, (h.1 k).isSome = true ↔ k < h.2.1) : ∀ j, ((xnew h c sz).1 j).isSome = true ↔ j < (xnew h c sz).2.1 := by
  intro j
  by_cases hj : j = h.2.1
  · subst hj; simp [xnew, xup]
  · simp only [xnew, xup, if_neg hj]
    rw [ha j]
    omega
/-- the heap is no smaller than its cells ask -/
theorem xws_size {G : xG} {h : xH} {H : Heap} (hP : va_P G.D x_cls (xws G h) H) (ha : ∀ k, (h.1 k).isSome = true ↔ k < h.2.1) (hN : G.N ≤ H.size) : G.N + h.2.1 ≤ H.size := by
  by_cases hz : h.2.1 = 0
  · omega
  · have hk : h.2.1 - 1 < h.2.1 := by omega
    obtain ⟨c, hc⟩ := Option.isSome_iff_exists.mp ((ha _).mpr hk)
    have := (hP _ _ (xws_get (G := G) hk hc)).lt
    simp at this
    omega
-- locals
def xlv (G : xG) (L : List xV) : List (Nat × Value) := (List.range L.length).filterMap (fun i => match L[i]? with
  | some v => if v = vU then none else some (i, xc G v)
  | none => none)
theorem xlv_mem {G : xG} {L : List xV} {q : Nat × Value} : q ∈ xlv G L ↔ ∃ v, L[q.1]? = some v ∧ v ≠ vU ∧ q.2 = xc G v := by
  simp only [xlv, List.mem_filterMap, List.mem_range]
  constructor
  · rintro ⟨i, hi, h⟩
    have e : L[i]? = some L[i] := List.getElem?_eq_getElem hi
    rw [e] at h
    dsimp only at h
    by_cases hv : L[i] = vU
    · rw [if_pos hv] at h; cases h
    · rw [if_neg hv] at h
      cases h
      exact ⟨L[i], e, hv, rfl⟩
  · rintro ⟨v, h1, h2, h3⟩
    refine ⟨q.1, (List.getElem?_eq_some_iff.mp h1).1, ?_⟩
    rw [h1]
    dsimp only
    rw [if_neg h2, ← h3]
def xLR (G : xG) (ls : Array Slot) (nL : Nat) (L : List xV) : Prop := lv_has ls nL (xlv G L) ∧ L.length = nL
theorem xLR.at {G : xG} {ls : Array Slot} {nL : Nat} {L : List xV} (h : xLR G ls nL L) {i : Nat} {v : xV} (hi : L[i]? = some v) (hv : v ≠ vU) : ls[i]? = some (.val (xc G v)) := h.1.2.2 (i, xc G v) (xlv_mem.mpr ⟨v, hi, hv, rfl⟩)
theorem xc_cat {G : xG} {v : xV} (h : (xc G v).category = 2) : ∃ x, v = vL x := by
  match v with
  | .inl x => simp [xc, Value.category] at h
  | .inr (.inl x) => exact ⟨x, rfl⟩
  | .inr (.inr (.inl none)) => simp [xc, Value.category] at h
  | .inr (.inr (.inl (some k))) => simp [xc, Value.category] at h
  | .inr (.inr (.inr (.inl j))) =>
    cases e : G.ea j <;> simp [xc, va_rf, e, Value.category] at h
  | .inr (.inr (.inr (.inr (.inl j)))) => simp [xc, Value.category] at h
  | .inr (.inr (.inr (.inr (.inr _)))) => simp [xc, Value.category] at h
theorem xc_cat1 {G : xG} {v : xV} (h : xcat v = 1) : (xc G v).category = 1 := by
  rcases lv_cat (xc G v) with h1 | h1
  · exact h1
  · obtain ⟨x, rfl⟩ := xc_cat h1
    simp [xcat] at h
theorem xc_catE (G : xG) (v : xV) : (xc G v).category = xcat v := by
  match v with
  | .inl x => rfl
  | .inr (.inl x) => rfl
  | .inr (.inr (.inl none)) => rfl
  | .inr (.inr (.inl (some k))) => rfl
  | .inr (.inr (.inr (.inl j))) =>
    cases e : G.ea j <;> simp [xc, va_rf, e, Value.category, xcat]
  | .inr (.inr (.inr (.inr (.inl j)))) => rfl
  | .inr (.inr (.inr (.inr (.inr _)))) => rfl
theorem xc_wd (G : xG) (S : List xV) : ((S.map (xc G)).map fun v => v.category).sum = xwd S := by
  unfold xwd
  rw [List.map_map]
  congr 1
  apply List.map_congr_left
  intro v _
  exact xc_catE G v
theorem xkill_len (L : List xV) (i : Nat) : (xkill L i).length = L.length := by
  unfold xkill
  match i with
  | 0 => rfl
  | j + 1 =>
    dsimp only
    split <;> simp
theorem xkill_get {L : List xV} {i j : Nat} {w : xV} (h : (xkill L i)[j]? = some w) (hw : w ≠ vU) : L[j]? = some w ∧ ¬ (j + 1 = i ∧ ∃ x, w = vL x) := by
  unfold xkill at h
  match i with
  | 0 => exact ⟨h, fun q => by omega⟩
  | k + 1 =>
    dsimp only at h
    split at h
    · rename_i x hx
      rw [List.getElem?_set] at h
      by_cases hj : k = j
      · subst hj
        rw [if_pos rfl] at h
        split at h
        · cases h; exact absurd rfl hw
        · cases h
      · rw [if_neg hj] at h
        exact ⟨h, fun q => hj (by omega)⟩
    · rename_i hx
      refine ⟨h, fun q => ?_⟩
      obtain ⟨q1, x, rfl⟩ := q
      have : k = j := by omega
      subst this
      exact hx x h
theorem xLR_st1 {G : xG} {ls' : Array Slot} {nL : Nat} {L : List xV} {i : Nat} {v : xV} (hL : L.length = nL) (h : lv_has ls' nL ((i, xc G v) :: (xlv G L).filter (fun q => !(q.1 == i) && !(q.1 + 1 == i && q.2.category == 2)))) : xLR G ls' nL (xst1 L i v) := by
  refine ⟨⟨h.1, h.2.1, fun q hq => h.2.2 q ?_⟩, by simp [xst1, xkill_len, hL]⟩
  obtain ⟨w, h1, h2, h3⟩ := xlv_mem.mp hq
  unfold xst1 at h1
  rw [List.getElem?_set] at h1
  by_cases hi : i = q.1
  · rw [if_pos hi] at h1
    split at h1
    · cases h1
      exact List.mem_cons.mpr (Or.inl (by rw [hi, ← h3]))
    · cases h1
  · rw [if_neg hi] at h1
    obtain ⟨h4, h5⟩ := xkill_get h1 h2
    refine List.mem_cons.mpr (Or.inr (List.mem_filter.mpr ⟨xlv_mem.mpr ⟨w, h4, h2, h3⟩, ?_⟩))
    simp only [Bool.and_eq_true, Bool.not_eq_true', beq_eq_false_iff_ne, ne_eq, Bool.and_eq_false_iff]
    refine ⟨fun z => hi z.symm, ?_⟩
    by_cases hc : q.2.category = 2
    · left
      intro z
      rw [h3] at hc
      exact h5 ⟨z, xc_cat hc⟩
    · right
      exact hc
theorem xLR_st2 {G : xG} {ls' : Array Slot} {nL : Nat} {L : List xV} {i : Nat} {v : xV} (hL : L.length = nL) (h : lv_has ls' nL ((i, xc G v) :: (xlv G L).filter (fun q => !(q.1 == i) && (!(q.1 == i + 1) && !(q.1 + 1 == i && q.2.category == 2))))) : xLR G ls' nL (xst2 L i v) := by
  refine ⟨⟨h.1, h.2.1, fun q hq => h.2.2 q ?_⟩, by simp [xst2, xkill_len, hL]⟩
  obtain ⟨w, h1, h2, h3⟩ := xlv_mem.mp hq
  unfold xst2 at h1
  rw [List.getElem?_set] at h1
  by_cases hi1 : i + 1 = q.1
  · rw [if_pos hi1] at h1
    split at h1
    · cases h1
      exact absurd rfl h2
    · cases h1
  · rw [if_neg hi1, List.getElem?_set] at h1
    by_cases hi : i = q.1
    · rw [if_pos hi] at h1
      split at h1
      · cases h1
        exact List.mem_cons.mpr (Or.inl (by rw [hi, ← h3]))
      · cases h1
    · rw [if_neg hi] at h1
      obtain ⟨h4, h5⟩ := xkill_get h1 h2
      refine List.mem_cons.mpr (Or.inr (List.mem_filter.mpr ⟨xlv_mem.mpr ⟨w, h4, h2, h3⟩, ?_⟩))
      simp only [Bool.and_eq_true, Bool.not_eq_true', beq_eq_false_iff_ne, ne_eq, Bool.and_eq_false_iff]
      refine ⟨fun z => hi z.symm, fun z => hi1 z.symm, ?_⟩
      by_cases hc : q.2.category = 2
      · left
        intro z
        rw [h3] at hc
        exact h5 ⟨z, xc_cat hc⟩
      · right
        exact hc
