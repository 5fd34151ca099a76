/-! SOUNDNESS: fields and arrays -/
def xtyk (kind : Nat) (ty : FieldType) : Bool := match kind, ty with
  | 0, .int => true
  | 1, .boolean => true
  | 2, .long => true
  | 3, .object _ => true
  | 3, .array _ => true
  | 5, .byte => true
  | 6, .char => true
  | _, _ => false
theorem xfit_ok {G : xG} {kind : Nat} {ty : FieldType} {v : xV} (hk : xtyk kind ty = true) (h : xfit kind v = true) : narrow ty (xc G v) = xc G v ∧ fits ty (xc G v) = true := by
  unfold xtyk at hk
  split at hk
  · match v, h with
    | .inl x, _ => exact ⟨rfl, rfl⟩
  · match v, h with
    | .inl x, h =>
      simp only [xfit, decide_eq_true_eq] at h
      rcases h with rfl | rfl <;> exact ⟨rfl, rfl⟩
  · match v, h with
    | .inr (.inl x), _ => exact ⟨rfl, rfl⟩
  · match v, h with
    | .inr (.inr (.inl none)), _ => exact ⟨rfl, rfl⟩
    | .inr (.inr (.inl (some k))), _ => exact ⟨rfl, rfl⟩
  · match v, h with
    | .inr (.inr (.inl none)), _ => exact ⟨rfl, rfl⟩
    | .inr (.inr (.inl (some k))), _ => exact ⟨rfl, rfl⟩
  · match v, h with
    | .inl x, h =>
      simp only [xfit, decide_eq_true_eq] at h
      subst h; exact ⟨rfl, rfl⟩
  · match v, h with
    | .inl x, h =>
      simp only [xfit, decide_eq_true_eq] at h
      have e : Int32.ofInt x = nI x.toNat := by
        have : ((x.toNat : Nat) : Int) = x := Int.toNat_of_nonneg h.1
        show Int32.ofInt x = Int32.ofNat x.toNat
        rw [← Int32.ofInt_eq_ofNat, this]
      show narrow .char (.int (Int32.ofInt x)) = .int (Int32.ofInt x) ∧ fits .char (.int (Int32.ofInt x)) = true
      rw [e]
      exact pk_charN (by omega)
  · cases hk
section
variable {mi pc : Nat}
theorem x_getf_nr {ci k : Nat} : ∀ (X : xX) L S h q, x_getf ci k pc L S h ≠ some (.inr q) := by
  intro X L S h q e
  unfold x_getf at e
  repeat' split at e
  all_goals first | exact xon_nr e | cases e
theorem snd_getf {ci k ix : Nat} {q : vw_C} (hd : decode (x_cc mi) pc = .ok (.getfield ix, 3)) (hc : x_cls[ci]? = some q) (hk : k < q.2.2) (hw : Cond.fieldLink (x_on (x_ow mi)) ix (q.2.1 k).1 (q.2.1 k).2.1 (q.2.1 k).2.2.1 ∈ x_tbl) : xSnd mi pc (fun _ => x_getf ci k) := by
  refine xSnd.on x_getf_nr (xSA.same ?_)
  intro G p l e R s m args below meth c Q n0 C L S h pc' L' S' h' hF
  unfold x_getf at hF
  split at hF
  · rename_i o S0
    split at hF
    · rename_i cj fs ho
      split at hF
      · rename_i hj
        subst hj
        split at hF
        · rename_i v hv
          obtain ⟨rfl, rfl, rfl, rfl⟩ := xon_inj hF
          refine ⟨rfl, fun _ _ H locs ls cells slots hR hL hS k0 => ?_⟩
          exact va_get C.1 C.2.1 C.2.2.2.2.2.1 (x_cls_ok _ _ hc).1 C.2.2.2.2.1 C.2.2.2.2.2.2.2.2.1 hR.2.1 o (hR.at ho) hc k hk (C.2.2.2.2.2.1 _ hw) (fun x h => h) (by rw [List.getElem?_map, hv]; rfl) hd (k0 ls hL)
        · cases hF
      · cases hF
    · cases hF
  · cases hF
theorem x_putf_nr {ci k ty : Nat} : ∀ (X : xX) L S h q, x_putf ci k ty pc L S h ≠ some (.inr q) := by
  intro X L S h q e
  unfold x_putf at e
  repeat' split at e
  all_goals first | exact xon_nr e | cases e
theorem snd_putf {ci k kd ix : Nat} {q : vw_C} {ty : FieldType} (hd : decode (x_cc mi) pc = .ok (.putfield ix, 3)) (hc : x_cls[ci]? = some q) (hk : k < q.2.2) (hw : Cond.fieldLink (x_on (x_ow mi)) ix (q.2.1 k).1 (q.2.1 k).2.1 (q.2.1 k).2.2.1 ∈ x_tbl) (hty : parseFieldDescriptor (q.2.1 k).2.2.1 = some ty) (hkd : xtyk kd ty = true)
    (hfin : (q.2.1 k).2.2.2 = false ∨ ((q.2.1 k).2.2.2 = true ∧ (x_nm mi).name = "<init>" ∧ (q.2.1 k).1 = x_on (x_ow mi))) : xSnd mi pc (fun _ => x_putf ci k kd) := by
  refine xSnd.on x_putf_nr ?_
  intro G p l e R s m args below meth c Q n0 z0 C L S h pc' L' S' h' hF
  unfold x_putf at hF
  dsimp only at hF
  split at hF
  · rename_i v o S0
    split at hF
    · rename_i cj fs ho
      split at hF
      · rename_i hj
        obtain ⟨rfl, hkl, hfit⟩ := hj
        obtain ⟨rfl, rfl, rfl, rfl⟩ := xon_inj hF
        refine ⟨Nat.le_refl _, Nat.le_refl _, fun _ _ _ _ kW H locs ls cells slots hR hL hS h1 h2 => ?_⟩
        obtain ⟨hi1, ⟨ty0, hty0⟩, hnm⟩ := x_cls_ok _ _ hc
        obtain ⟨f1, f2⟩ := xfit_ok (G := G) hkd hfit
        have kk : ∀ (H1 : Heap) (locs1 : List Loc), va_P G.D x_cls ((xws G h).set o (G.N + o, .inr (cj, (fs.map (xc G)).set k (xc G v)))) H1 → va_D (xA G) ((xws G h).set o (G.N + o, .inr (cj, (fs.map (xc G)).set k (xc G v)))) → va_S (xA G) s.heap H1 locs1 → W p l e R s m args below meth c H1 locs1 cells slots Q (F0 m (pc + 3) ls (S'.map (xc G))) := by
          intro H1 locs1 hP1 _ hS1
          refine W.sized (fun hz => ?_)
          refine kW H1 locs1 ls cells slots (xRel_set hR ho ?_ hz C.2.2.2.2.2.2.2.2.2.2 h1 hS1.1) hL hS1 h1 h2
          show va_P G.D x_cls ((xws G h).set o (G.N + o, .inr (cj, (fs.set k v).map (xc G)))) H1
          rw [List.map_set]
          exact hP1
        rcases hfin with hfin | ⟨hfin, hini, hdecl⟩
        · exact va_put C.1 C.2.1 C.2.2.2.2.2.1 hi1 ty0 hty0 hnm C.2.2.2.2.1 C.2.2.2.2.2.2.2.2.1 hR.2.1 (xws_D G h) hS o (hR.at ho) hc k hk (C.2.2.2.2.2.1 _ hw) (fun x h => h) hfin hty f1 f2 (by simpa using hkl) hd kk
        · exact va_putF C.1 C.2.1 C.2.2.2.2.2.1 hi1 ty0 hty0 hnm C.2.2.2.2.1 C.2.2.2.2.2.2.2.2.1 hR.2.1 (xws_D G h) hS o (hR.at ho) hc k hk (C.2.2.2.2.2.1 _ hw) (fun x h => h) hfin (C.2.2.2.2.2.2.2.1 hini) hdecl hty f1 f2 (by simpa using hkl) hd kk
      · cases hF
    · cases hF
  · cases hF
theorem x_ald_nr {ka : Nat} : ∀ (X : xX) L S h q, x_ald ka X pc L S h ≠ some (.inr q) := by
  intro X L S h q e
  unfold x_ald at e
  repeat' split at e
  all_goals first | exact xon_nr e | cases e
/-- an outer array's place -/
theorem va_tld {p : Program} {l : Launch} {e : Env} {R : Room} {s : State} {m : MethodId} {args : Array Value} {below : List Frame} {meth : Method} {c : Code} {H : Heap} {locs : List Loc} {cells slots : Nat} {Q : State → Prop} {cc : ByteArray} {ls : Array Slot} {rest : List Value} {A : Nat → Prop} {t N : Nat} {f : Nat → Int32} (hexec : p.tables.exec = Jvm.exec) (hb : c.code = cc) (hT : va_T .int t N (fun i => .int (f i)) A s s.heap) (hS : va_S A s.heap H locs) {i : Int32} (hin : vp_in i N) (hN : N < 2 ^ 31) (hdg : decode cc pc = .ok (.iaload, 1))
    (kk : W p l e R s m args below meth c H locs cells slots Q (F0 m (pc + 1) ls (.int (f i.toNatClampNeg) :: rest))) : W p l e R s m args below meth c H locs cells slots Q (F0 m pc ls (.int i :: .ref t :: rest)) := by
  obtain ⟨cell, h1, h2, h3, h4, h5, h6, h7⟩ := hT.kept hS.2.1
  have hlt : i.toNatClampNeg < N := Nat.not_le.mp fun q => hin (Or.inr q)
  exact W.iald (v := .int (f i.toNatClampNeg)) hexec hb h1 h2 h3 (fun q => hin (q.elim Or.inl (fun z => Or.inr (Nat.le_trans h4 z)))) (h6 _ hlt) rfl rfl hdg kk
theorem va_tbld {p : Program} {l : Launch} {e : Env} {R : Room} {s : State} {m : MethodId} {args : Array Value} {below : List Frame} {meth : Method} {c : Code} {H : Heap} {locs : List Loc} {cells slots : Nat} {Q : State → Prop} {cc : ByteArray} {ls : Array Slot} {rest : List Value} {A : Nat → Prop} {t N : Nat} {f : Nat → Int32} (hexec : p.tables.exec = Jvm.exec) (hb : c.code = cc) (hT : va_T .byte t N (fun i => .int (f i)) A s s.heap) (hS : va_S A s.heap H locs) {i : Int32} (hin : vp_in i N) (hN : N < 2 ^ 31) (hdg : decode cc pc = .ok (.baload, 1))
    (kk : W p l e R s m args below meth c H locs cells slots Q (F0 m (pc + 1) ls (.int (f i.toNatClampNeg) :: rest))) : W p l e R s m args below meth c H locs cells slots Q (F0 m pc ls (.int i :: .ref t :: rest)) := by
  obtain ⟨cell, h1, h2, h3, h4, h5, h6, h7⟩ := hT.kept hS.2.1
  have hlt : i.toNatClampNeg < N := Nat.not_le.mp fun q => hin (Or.inr q)
  exact W.bald (v := .int (f i.toNatClampNeg)) hexec hb h1 h2 h3 (fun q => hin (q.elim Or.inl (fun z => Or.inr (Nat.le_trans h4 z)))) (h6 _ hlt) rfl rfl hdg kk
theorem snd_iald (hd : decode (x_cc mi) pc = .ok (.iaload, 1)) : xSnd mi pc (fun X => x_ald 0 X) := by
  refine xSnd.on x_ald_nr (xSA.same ?_)
  intro G p l e R s m args below meth c Q n0 C L S h pc' L' S' h' hF
  unfold x_ald at hF
  split at hF
  · rename_i i o S0
    split at hF
    · rename_i k n f ho
      split at hF
      · rename_i hq
        obtain ⟨rfl, -, hq2, hq3⟩ := hq
        obtain ⟨rfl, rfl, rfl, rfl⟩ := xon_inj hF
        refine ⟨rfl, fun _ _ H locs ls cells slots hR hL hS k0 => ?_⟩
        refine va_iald C.1 C.2.1 C.2.2.2.2.2.2.2.2.1 hR.2.1 o 0 (hR.at ho) rfl (xI_in hq2 hq3) hd ?_
        rw [xI_nat hq2 hq3]
        exact k0 ls hL
      · cases hF
    · rename_i n f ho
      split at hF
      · rename_i hq; exact absurd hq.1 (by decide)
      · cases hF
    · cases hF
  · rename_i i j S0
    split at hF
    · rename_i hq
      obtain ⟨hq1, hq2, hq3⟩ := hq
      have hq1 : (G.X j).1 = 0 := by
        rcases hq1 with h | h
        · exact h.2
        · exact absurd h.1 (by decide)
      obtain ⟨rfl, rfl, rfl, rfl⟩ := xon_inj hF
      refine ⟨rfl, fun _ _ H locs ls cells slots hR hL hS k0 => ?_⟩
      obtain ⟨a, ha, hT⟩ := C.2.2.2.2.2.2.2.2.2.1.1 j hq1
      have hk := k0 ls hL
      show W p l e R s m args below meth c H locs cells slots Q (F0 m pc ls (.int (Int32.ofInt i) :: va_rf (G.ea j) :: List.map (xc G) S0))
      rw [ha]
      refine va_tld (f := fun i => Int32.ofInt ((G.X j).2.2 i)) C.1 C.2.1 hT hS (xI_in hq2 hq3) hq3 hd ?_
      rw [xI_nat hq2 hq3]
      exact hk
    · cases hF
  · cases hF
theorem snd_bald (hd : decode (x_cc mi) pc = .ok (.baload, 1)) : xSnd mi pc (fun X => x_ald 1 X) := by
  refine xSnd.on x_ald_nr (xSA.same ?_)
  intro G p l e R s m args below meth c Q n0 C L S h pc' L' S' h' hF
  unfold x_ald at hF
  split at hF
  · rename_i i o S0
    split at hF
    · rename_i k n f ho
      split at hF
      · rename_i hq
        obtain ⟨rfl, -, hq2, hq3⟩ := hq
        obtain ⟨rfl, rfl, rfl, rfl⟩ := xon_inj hF
        refine ⟨rfl, fun _ _ H locs ls cells slots hR hL hS k0 => ?_⟩
        refine va_zald C.1 C.2.1 C.2.2.2.2.2.2.2.2.1 hR.2.1 o 1 (hR.at ho) rfl (xI_in hq2 hq3) hd ?_
        rw [xI_nat hq2 hq3]
        exact k0 ls hL
      · cases hF
    · rename_i n f ho
      split at hF
      · rename_i hq; exact absurd hq.1 (by decide)
      · cases hF
    · cases hF
  · rename_i i j S0
    split at hF
    · rename_i hq
      obtain ⟨hq1, hq2, hq3⟩ := hq
      have hq1 : (G.X j).1 = 3 := by
        rcases hq1 with h | h
        · exact absurd h.1 (by decide)
        · exact h.2
      obtain ⟨rfl, rfl, rfl, rfl⟩ := xon_inj hF
      refine ⟨rfl, fun _ _ H locs ls cells slots hR hL hS k0 => ?_⟩
      obtain ⟨a, ha, hT⟩ := C.2.2.2.2.2.2.2.2.2.1.2.1 j hq1
      have hk := k0 ls hL
      show W p l e R s m args below meth c H locs cells slots Q (F0 m pc ls (.int (Int32.ofInt i) :: va_rf (G.ea j) :: List.map (xc G) S0))
      rw [ha]
      refine va_tbld (f := fun i => Int32.ofInt ((G.X j).2.2 i)) C.1 C.2.1 hT hS (xI_in hq2 hq3) hq3 hd ?_
      rw [xI_nat hq2 hq3]
      exact hk
    · cases hF
  · cases hF
theorem snd_lald (hd : decode (x_cc mi) pc = .ok (.laload, 1)) : xSnd mi pc (fun X => x_ald 2 X) := by
  refine xSnd.on x_ald_nr (xSA.same ?_)
  intro G p l e R s m args below meth c Q n0 C L S h pc' L' S' h' hF
  unfold x_ald at hF
  split at hF
  · rename_i i o S0
    split at hF
    · rename_i k n f ho
      split at hF
      · rename_i hq
        obtain ⟨rfl, -, hq2, hq3⟩ := hq
        obtain ⟨rfl, rfl, rfl, rfl⟩ := xon_inj hF
        refine ⟨rfl, fun _ _ H locs ls cells slots hR hL hS k0 => ?_⟩
        refine va_lald C.1 C.2.1 C.2.2.2.2.2.2.2.2.1 hR.2.1 o 2 (hR.at ho) rfl (xI_in hq2 hq3) hd ?_
        rw [xI_nat hq2 hq3]
        exact k0 ls hL
      · cases hF
    · rename_i n f ho
      split at hF
      · rename_i hq; exact absurd hq.1 (by decide)
      · cases hF
    · cases hF
  · rename_i i j S0
    split at hF
    · rename_i hq
      rcases hq.1 with h | h
      · exact absurd h.1 (by decide)
      · exact absurd h.1 (by decide)
    · cases hF
  · cases hF
theorem snd_aald (hd : decode (x_cc mi) pc = .ok (.aaload, 1)) : xSnd mi pc (fun X => x_ald 4 X) := by
  refine xSnd.on x_ald_nr ?_
  intro G p l e R s m args below meth c Q n0 z0 C L S h pc' L' S' h' hF
  unfold x_ald at hF
  dsimp only at hF
  split at hF
  · rename_i i o S0
    split at hF
    · rename_i k n f ho
      split at hF
      · rename_i hq
        exact absurd hq.2.1 (by decide)
      · cases hF
    · rename_i n f ho
      split at hF
      · rename_i hq
        obtain ⟨-, hq2, hq3⟩ := hq
        obtain ⟨rfl, rfl, rfl, rfl⟩ := xon_inj hF
        refine ⟨Nat.le_refl _, Nat.le_refl _, fun _ _ _ _ kW H locs ls cells slots hR hL hS h1 h2 => ?_⟩
        refine va_aldq C.1 C.2.1 C.2.2.2.2.2.2.2.2.1 hR.2.1 o 3 (hR.at ho) rfl (xI_in hq2 hq3) hd ?_
        rw [xI_nat hq2 hq3]
        have e1 : va_rf ((f i.toNat).map (G.N + ·)) = xc G (.inr (.inr (.inl (f i.toNat)))) := by cases f i.toNat <;> rfl
        rw [e1]
        exact kW H locs ls cells slots hR hL hS h1 h2
      · cases hF
    · cases hF
  · rename_i i j S0
    split at hF
    · rename_i hq
      rcases hq.1 with h | h
      · exact absurd h.1 (by decide)
      · exact absurd h.1 (by decide)
    · cases hF
  · cases hF
end
