/-! SOUNDNESS: the clone of an outer array; calls; answers -/
theorem xRel_push {G : xG} {h : xH} {H : Heap} {c : xC} {cell : Cell} (sz : Nat) (hR : xRel G h H) (hc : va_at G.D x_cls (G.N + h.2.1, xce G c) (H.push cell)) : xRel G (xnew h c sz) (H.push cell) := by
  refine ⟨xnew_some hR.1, ?_, ?_⟩
  · rw [← xws_new]
    refine (hR.2.1.kept (fun k y hy => ?_)).app (fun k y hy => ?_)
    · have hl := (hR.2.1 k y hy).lt
      rw [Array.getElem?_push, if_neg (Nat.ne_of_lt hl)]
    · have hz : k < 1 := (List.getElem?_eq_some_iff.mp hy).1
      rw [show k = 0 by omega] at hy
      cases hy
      exact hc
  · have e : (xnew h c sz).2.1 = h.2.1 + 1 := rfl
    rw [e, Array.size_push, hR.2.2]
    omega
def ws_Rog : List Cond := [.code y_Rog b_Rog 1 (some (.object "java/lang/Object")), .arrayClass .int]
def rm_Rog : Room := { frames := 0, cells := 1, slots := 7, locals := 20 }
def pc_Rog (G : xG) (h : xH) (a : Nat) : Array Value → State → Prop := va_Pc [.ref a] (fun U => xRel G h U.heap ∧ va_K G.D x_cls (xtys G) U)
def qc_Rog (G : xG) (h : xH) : Array Value → State → Outcome → State → Prop := fun _ st o t => o = .returned (some (.ref (G.N + h.2.1))) ∧ xRel G (xnew h (c_A 0 7 (fun _ => 0)) 7) t.heap ∧ ∀ q : Nat, q < G.N → t.heap[q]? = st.heap[q]?
theorem blind_Rog (G : xG) (h : xH) (a : Nat) : FrameBlind (pc_Rog G h a) := fun as U g mk q => by
  obtain ⟨q0, q1, q2⟩ := q
  exact ⟨q0, q1, va_K.moved (u := U) (U := U.calling g mk as) (Vm.Alike.refl U.vm) q2⟩
theorem d_Rog0 : decode b_Rog 0 = .ok (.bipush 7, 2) := by decide +kernel
theorem d_Rog2 : decode b_Rog 2 = .ok (.newarray .int, 2) := by decide +kernel
theorem d_Rog4 : decode b_Rog 4 = .ok (.areturn, 1) := by decide +kernel
theorem met_Rog (l : Launch) (G : xG) (h : xH) (a : Nat) : Met l y_Rog ws_Rog rm_Rog (pc_Rog G h a) (qc_Rog G h) 1 7 (xA G) := by
  refine Met.ofW (cc := b_Rog) (maxL := 1) (ret := some (.object "java/lang/Object")) (by decide) rfl ?_
  intro p e s m args below meth c s₁ B hml hv
  obtain ⟨rfl, hR, hK⟩ := hv
  have hts := atoms_spec (ws := ws_Rog) B.pre
  have hsz : s.heap.size = G.N + h.2.1 := hR.2.2
  rw [lg_entry_eq]
  refine lv_bipush (v := 7) B.exec B.bytes d_Rog0 (by decide) ?_
  refine va_newa (a0 := (7, .inl (fun _ => 0))) (ty := .int) (N' := 7) (H0 := s.heap) (A := xA G) B.exec B.bytes (hts _ (by simp [ws_Rog, Op.newarray.typeOf])) rfl hK hR.2.1 (xws_D G h) va_S.rf (fun q hq => by show G.N ≤ q; omega) (fun cA => rfl) (by decide) (by decide) (by decide) (by decide) (by decide) d_Rog2 (fun q cA H1 hK1 hP1 hD1 hS1 => ?_)
  have hcA : cA = G.ca 0 := by
    have e1 := (hK.2 0 _ (show (xtys G)[0]? = some (G.ca 0, .int) from rfl)).2
    have e2 := (hK1.2 (xtys G).length (cA, .int) (by simp)).2
    exact Option.some.inj (e2.symm.trans e1)
  subst hcA
  refine W.sized (fun hz1 => ?_)
  obtain ⟨hqe, hR1⟩ := xRel_new (c := c_A 0 7 (fun _ => 0)) (sz := 7) (n0 := h.2.1) (cells := 0) hR hP1 hD1 hz1 hsz (Nat.zero_add _) rfl
  rw [hqe]
  exact W.aret B.exec B.bytes B.returns (Or.inl ⟨_, rfl⟩) (Or.inr ⟨_, rfl⟩) (fun t ht _ => ⟨rfl, by rw [ht]; exact hR1, fun q hq => by rw [ht]; exact hS1.2.1 q (by omega) (by show ¬ G.N ≤ q; omega)⟩) hS1.2.2 d_Rog4 (hlocks := B.notSynchronized)
section
variable {mi pc : Nat}
theorem x_clone_nr : ∀ (X : xX) L S h q, x_clone X pc L S h ≠ some (.inr q) := by
  intro X L S h q e
  unfold x_clone at e
  repeat' split at e
  all_goals first | exact xon_nr e | cases e
theorem snd_clone {ix : Nat} (hd : decode (x_cc mi) pc = .ok (.invokevirtual ix, 3)) (hw1 : Cond.methodLink (x_on (x_ow mi)) ix ⟨"[I", "clone", "()Ljava/lang/Object;"⟩ ∈ x_tbl) (hw2 : Cond.sameMethod "[I" "java/lang/Object" "clone" "()Ljava/lang/Object;" ∈ x_tbl) (hw3 : Cond.native ⟨"java/lang/Object", "clone", "()Ljava/lang/Object;"⟩ ∈ x_tbl) (hw4 : Cond.instanceMethod ⟨"java/lang/Object", "clone", "()Ljava/lang/Object;"⟩ ∈ x_tbl)
    (hw5 : Cond.selects "[I" ⟨"[I", "clone", "()Ljava/lang/Object;"⟩ ⟨"java/lang/Object", "clone", "()Ljava/lang/Object;"⟩ ∈ x_tbl) (hwA : Cond.arrayClass .int ∈ x_tbl) : xSnd mi pc (fun X => x_clone X) := by
  refine xSnd.on x_clone_nr ?_
  intro G p l e R s m args below meth c Q n0 z0 C L S h pc' L' S' h' hF
  unfold x_clone at hF
  dsimp only at hF
  split at hF
  · rename_i j S0
    split at hF
    · rename_i hq
      obtain ⟨rfl, hq1, hq2⟩ := hq
      obtain ⟨rfl, rfl, rfl, rfl⟩ := xon_inj hF
      refine ⟨by show h.2.1 ≤ h.2.1 + 1; omega, by show h.2.2 ≤ h.2.2 + 7; omega, fun r1 r2 r3 r4 kW H locs ls cells slots hR hL hS h1 h2 => ?_⟩
      have r1 : h.2.1 + 1 ≤ R.cells + n0 := r1
      have r2 : h.2.2 + 7 ≤ R.slots + z0 := r2
      have hT0 := C.2.2.2.2.2.1
      have hE := C.2.2.2.2.2.2.2.2.2.1
      have hK := C.2.2.2.2.2.2.2.2.1
      obtain ⟨a, ha, -⟩ := hE.1 3 hq1
      obtain ⟨vmd, hcell, hv1, hv2, hnA⟩ := hE.2.2.2.2.2.2.2.2.1.2.2.2.2 a hq1 ha
      have hal : a < s.heap.size := (Array.getElem?_eq_some_iff.mp hcell).1
      show W p l e R s m args below meth c H locs cells slots Q (F0 m pc ls (va_rf (G.ea 3) :: List.map (xc G) S0))
      rw [ha]
      show W p l e R s m args below meth c H locs cells slots Q (F0 m pc ls (.ref a :: List.map (xc G) S0))
      have e1 : s.vm.findClass "[I" = some (G.ca 0) := (hK.2 0 _ (show (xtys G)[0]? = some (G.ca 0, .int) from rfl)).2
      obtain ⟨c0, t0', f1, f2, f3⟩ := Cond.castable_spec (va_Nw.use (A := args) rfl hE.2.2.2.2.2.2.2.2.1.2.2.1)
      cases e1.symm.trans f1
      intro T hT X
      have hcellT : T.heap[a]? = some { cls := G.ca 0, slots := (arrV (G.ca 0) 7 (fun i => .int (Int32.ofInt ((G.X 3).2.2 i)))).slots, vm := vmd } := by
        rw [hT, hS.2.1 a hal hnA]
        exact hcell
      obtain ⟨-, kA, hkA, comp, hkind⟩ := State.isArrayOf_alike X.warmed.alike ((hK.2 0 _ (show (xtys G)[0]? = some (G.ca 0, .int) from rfl)).1 0 (fun _ => .null))
      obtain ⟨-, kS, hkS, compS, hkindS⟩ := (hK.2 0 _ (show (xtys G)[0]? = some (G.ca 0, .int) from rfl)).1 0 (fun _ => .null)
      have hsz : (arrV (G.ca 0) 7 (fun i => .int (Int32.ofInt ((G.X 3).2.2 i)))).slots.size = 7 := arrV_size _ _ _
      obtain ⟨vm', X', st⟩ := X.cloneArray C.1 C.2.2.2.2.1 (hT0 _ hw1) (hT0 _ hw2) (hT0 _ hw3) (hT0 _ hw4) (hT0 _ hw5) (a := a) hcellT hv1 hv2 e1 f2 f3
        (fun i v hv => by
          have hk' : T.vm.classes[G.ca 0]? = some kA := hkA
          have hi : i < 7 := by
            have := (Array.getElem?_eq_some_iff.mp hv).1
            rw [hsz] at this
            exact this
          rw [arrV_read _ _ hi] at hv
          cases hv
          simp [State.fitsSlot, State.slotType?, hk', hkind, fits])
        (g := F0 m pc ls (.ref a :: List.map (xc G) S0)) rfl (by show ls.size = _; rw [C.2.2.1, hL.1.1]) rfl (by rw [C.2.1]; exact hd) r3 (by rw [xc_wd]; show 2 * 0 + _ + 14 ≤ _; omega) (by omega) (by show slots + (arrV (G.ca 0) 7 (fun i => .int (Int32.ofInt ((G.X 3).2.2 i)))).slots.size ≤ _; rw [hsz]; omega) (hloader := Vm.clonesLoader_of_array hkS hkindS)
      have hsz2 : slots + (arrV (G.ca 0) 7 (fun i => .int (Int32.ofInt ((G.X 3).2.2 i)))).slots.size = slots + 7 := by rw [hsz]
      have X' : Stand p l e R s m args below meth c ((T.setVm vm').pushCell (arrV (G.ca 0) 7 (fun i => .int (Int32.ofInt ((G.X 3).2.2 i))))) locs (cells + 1) (slots + 7) := by
        rw [← hsz2]
        exact X'
      have hR1 : xRel G (xnew h (c_A 0 7 (G.X 3).2.2) 7) (H.push (arrV (G.ca 0) 7 (fun i => .int (Int32.ofInt ((G.X 3).2.2 i))))) := by
        refine xRel_push 7 hR ?_
        show (H.push _)[G.N + h.2.1]? = some (vp_cell _ _)
        rw [← hR.2.2, Array.getElem?_push_size]
        rfl
      have hS1 : va_S (xA G) s.heap (H.push (arrV (G.ca 0) 7 (fun i => .int (Int32.ofInt ((G.X 3).2.2 i))))) locs := by
        refine ⟨Nat.le_trans hS.1 (by rw [Array.size_push]; omega), fun y y1 y2 => ?_, hS.2.2⟩
        rw [Array.getElem?_push, if_neg (Nat.ne_of_lt (Nat.lt_of_lt_of_le y1 hS.1))]
        exact hS.2.1 y y1 y2
      obtain ⟨t, b1, b2⟩ := kW _ locs ls (cells + 1) (slots + 7) hR1 hL hS1 (by show cells + 1 + n0 = h.2.1 + 1; omega) (by show slots + 7 + z0 = h.2.2 + 7; omega) ((T.setVm vm').pushCell (arrV (G.ca 0) 7 (fun i => .int (Int32.ofInt ((G.X 3).2.2 i))))) (by rw [← hT]; rfl) X'
      refine ⟨t, st t ?_, b2⟩
      have e2 : T.heap.size = G.N + h.2.1 := by rw [hT, hR.2.2]
      show Steps p.tables e below ((((T.setVm vm').pushCell (arrV (G.ca 0) 7 (fun i => .int (Int32.ofInt ((G.X 3).2.2 i)))))).setTop (F0 m (pc + 3) ls (.ref T.heap.size :: List.map (xc G) S0))) t
      rw [e2]
      exact b1
    · split at hF
      · rename_i hq
        obtain ⟨rfl, hq1, hq2⟩ := hq
        obtain ⟨rfl, rfl, rfl, rfl⟩ := xon_inj hF
        refine ⟨by show h.2.1 ≤ h.2.1 + 1; omega, by show h.2.2 ≤ h.2.2 + 7; omega, fun r1 r2 r3 r4 kW H locs ls cells slots hR hL hS h1 h2 => ?_⟩
        have r1 : h.2.1 + 1 ≤ R.cells + n0 := r1
        have r2 : h.2.2 + 7 ≤ R.slots + z0 := r2
        have hT0 := C.2.2.2.2.2.1
        have hE := C.2.2.2.2.2.2.2.2.2.1
        have hK := C.2.2.2.2.2.2.2.2.1
        obtain ⟨a, ha, hO, hrw⟩ := hE.2.2.2.2.2.2.2.2.1.2.2.2.1 hq1
        obtain ⟨cell, g1, g2, g3, -⟩ := hO.kept hS.2.1
        show W p l e R s m args below meth c H locs cells slots Q (F0 m pc ls (va_rf (G.ea 3) :: List.map (xc G) S0))
        rw [ha]
        show W p l e R s m args below meth c H locs cells slots Q (F0 m pc ls (.ref a :: List.map (xc G) S0))
        obtain ⟨r, methO, hnO, hmO, -, -, -, hsig⟩ := Cond.native_spec (hT0 _ hw3)
        obtain ⟨r', methO', hnO', hmO', hstO, -⟩ := Cond.instanceMethod_spec (hT0 _ hw4)
        cases hnO.symm.trans hnO'
        cases hmO.symm.trans hmO'
        have hdecl : va_Decl s ⟨"java/lang/Object", "clone", "()Ljava/lang/Object;"⟩ := ⟨r, methO, hnO, hmO, hstO, hsig⟩
        have hgood : ∀ w ∈ x_rw, ((w.onTables && w.keeps) = true ∨ ∃ ty, w = .arrayClass ty) := fun w hw => good_of_word (List.all_eq_true.mp (show x_rw.all goodWord = true by decide +kernel) w hw)
        have hon : ∀ w ∈ x_rw, w.onTables = true := fun w hw => List.all_eq_true.mp (show x_rw.all (fun w => w.onTables) = true by decide +kernel) w hw
        have hu : ∀ w ∈ x_rw, w.before args s = true := fun w hw => va_Nw.use (hon w hw) (hrw w hw)
        have hws : ∀ w ∈ ws_Rog, ∀ (a' : Array Value) (U : State), s.WarmedH U.vm → w.before a' U = true := by
          intro w hw a' U hW
          unfold ws_Rog at hw
          rcases List.mem_cons.mp hw with rfl | hw
          · exact word_at hW (hgood _ (by simp [x_rw])) (hu _ (by simp [x_rw]))
          · rcases List.mem_cons.mp hw with rfl | hw
            · exact word_at hW (Or.inr ⟨_, rfl⟩) (hT0 _ hwA)
            · exact absurd hw List.not_mem_nil
        have cw : va_CU R s args (x_on (x_ow mi)) "[R" "java/lang/Object" ix ⟨"[I", "clone", "()Ljava/lang/Object;"⟩ y_Rog b_Rog 1 (some (.object "java/lang/Object")) ws_Rog rm_Rog 1 7 0 := ⟨⟨rfl, rfl, by show 0 + 1 ≤ R.frames; omega, by show 8 + (1 + 11) + 20 ≤ R.locals; omega, hws, List.mem_cons_self⟩, hu _ (by simp [x_rw]), hu _ (by simp [x_rw, y_Rog]), ⟨by decide, by decide⟩, fun sig hs => by
            have e : parseMethodDescriptor "()Ljava/lang/Object;" = some sig := hs
            have e2 : (parseMethodDescriptor "()Ljava/lang/Object;").map (fun d => d.parameters.length) = some 0 := by decide +kernel
            rw [e] at e2
            exact (Option.some.inj e2).symm, hT0 _ hw1, hT0 _ hw2, hdecl, hu _ (by simp [x_rw]), hu _ (by simp [x_rw])⟩
        have hrun := va_runU (As := []) (b := a) (rest := S0.map (xc G)) (locs := locs) (cells := cells) (slots := slots) (below := below) (e := e) (meth := meth) ⟨C.1, C.2.1, C.2.2.1, C.2.2.2.2.1, hT0⟩ (met_Rog l G h a) cw ⟨blind_Rog G h a, ⟨cell, g1, g2, g3⟩, fun U hU hW => ⟨rfl, by rw [hU]; exact hR, va_K.moved hW.alike hK⟩⟩ (g := F0 m pc ls (.ref a :: List.map (xc G) S0)) rfl rfl (by show ls.size = _; exact hL.1.1) rfl (lv_room (by rw [xc_wd]; exact hq2)) hd ⟨by omega, by omega⟩
        intro T hT X
        obtain ⟨v, st₀, t, T', Lo, b0, X', bL, b1, b2, ⟨bv, bR, bq⟩, bst⟩ := hrun T hT X
        cases bv
        have hS' : va_S (xA G) s.heap T'.heap (locs ++ Lo) := by
          refine ⟨?_, fun q c1 c2 => ?_, fun q hq => ?_⟩
          · rw [b1, bR.2.2, C.2.2.2.2.2.2.2.2.2.2]
            show G.N + n0 ≤ G.N + (h.2.1 + 1)
            omega
          · have c3 : q < G.N := by
              have : ¬ G.N ≤ q := c2
              omega
            rw [b1, bq q c3, b0]
            exact hS.2.1 q c1 c2
          · rcases List.mem_append.mp hq with hq | hq
            · exact hS.2.2 q hq
            · exact bL q hq
        obtain ⟨t2, d1, d3⟩ := kW T'.heap (locs ++ Lo) ls (cells + 1) (slots + 7) (by rw [b1]; exact bR) hL hS' (by show cells + 1 + n0 = h.2.1 + 1; omega) (by show slots + 7 + z0 = h.2.2 + 7; omega) T' rfl X'
        exact ⟨t2, bst t2 d1, d3⟩
      · cases hF
  · cases hF
theorem xrecv_of {ci : Nat} {h : xH} {v : xV} (hq : xrecv ci h v = true) : ∃ o fs, v = vR o ∧ h.1 o = some (.inl (ci, fs)) := by
  unfold xrecv at hq
  split at hq
  · rename_i o
    split at hq
    · rename_i cj fs ho
      have : cj = ci := by simpa using hq
      subst this
      exact ⟨o, fs, rfl, ho⟩
    · cases hq
  · cases hq
theorem xrk3_of {ci : Nat} {h : xH} {v : xV} {as : List xV} (hq : xrk 3 ci h (v :: as) = true) : ∃ o, v = vR o := by
  match v, hq with
  | .inl _, hq => cases hq
  | .inr (.inl _), hq => cases hq
  | .inr (.inr (.inl none)), hq => cases hq
  | .inr (.inr (.inl (some o))), _ => exact ⟨o, rfl⟩
  | .inr (.inr (.inr (.inl _))), hq => cases hq
  | .inr (.inr (.inr (.inr (.inl _)))), hq => cases hq
  | .inr (.inr (.inr (.inr (.inr _)))), hq => cases hq
theorem xrk4_of {ci : Nat} {h : xH} {v : xV} {as : List xV} (hq : xrk 4 ci h (v :: as) = true) : ∃ j, j < 14 ∧ v = vS j := by
  match v, hq with
  | .inl _, hq => cases hq
  | .inr (.inl _), hq => cases hq
  | .inr (.inr (.inl none)), hq => cases hq
  | .inr (.inr (.inl (some o))), hq => cases hq
  | .inr (.inr (.inr (.inl _))), hq => cases hq
  | .inr (.inr (.inr (.inr (.inl j)))), hq => exact ⟨j, of_decide_eq_true hq, rfl⟩
  | .inr (.inr (.inr (.inr (.inr _)))), hq => cases hq
theorem xSnd.call {y n : Nat} {ok : xH → List xV → Bool} (hB : xSB mi pc (fun _ => x_call y n ok)) : xSnd mi pc (fun _ => x_call y n ok) := by
  refine ⟨?_, hB, ?_⟩
  · intro G p l e R s m args below meth c Q n0 z0 C L S h pc' L' S' h' hF
    unfold x_call at hF
    dsimp only at hF
    split at hF <;> cases hF
  · intro X L S h r hF
    unfold x_call at hF
    dsimp only at hF
    split at hF <;> cases hF
theorem xcall_st {S : List xV} {n : Nat} (hn : n ≤ S.length) : S = ((S.take n).reverse).reverse ++ S.drop n := by
  rw [List.reverse_reverse, List.take_append_drop]
theorem snd_callV {y ix ci : Nat} {q : vw_C} (hd : decode (x_cc mi) pc = .ok (.invokevirtual ix, 3)) (hy : y < x_cnt) (hc : x_cls[ci]? = some q) (hcy : (x_nm y).cls = q.1) (hna : x_na y = x_np y + 1) (hw1 : Cond.methodLink (x_on (x_ow mi)) ix (x_nm y) ∈ x_tbl) (hw2 : Cond.instanceMethod (x_nm y) ∈ x_tbl) (hw3 : Cond.selects q.1 (x_nm y) (x_nm y) ∈ x_tbl) : xSnd mi pc (fun _ => x_call y (x_na y) (xrk 2 ci)) := by
  refine xSnd.call ?_
  intro G p l e R s m args below meth c n0 C L S h y' as pc' S' hF
  unfold x_call at hF
  dsimp only at hF
  split at hF
  · rename_i hq
    obtain ⟨hq1, hq2, hq3⟩ := hq
    cases hF
    refine ⟨hy, rfl, fun H locs ls cells slots rm Pc Qc mc ms free hR hL hS hM hrc hrs hfr hlo hbl hPc hcs => ?_⟩
    obtain ⟨k1, k2, k3, k4, k5, k6, k7⟩ := x_okm_at hy
    have hst := xcall_st hq1
    have hlen : ((S.take (x_na y)).reverse).length = x_na y := by rw [List.length_reverse, List.length_take]; omega
    generalize (S.take (x_na y)).reverse = as at hst hlen hq3 hPc ⊢
    generalize S.drop (x_na y) = S1 at hst hq2 ⊢
    match as, hlen, hq3, hst, hPc with
    | [], hlen, _, _, _ => rw [hna] at hlen; simp at hlen
    | v :: as, hlen, hq3, hst, hPc =>
      have hv := xrecv_of (show xrecv ci h v = true from hq3)
      obtain ⟨o, fs, rfl, ho⟩ := hv
      have hT := C.2.2.2.2.2.1
      have hG : GoodIn x_tbl (wsV (x_on (x_ow mi)) ix q.1 (x_nm y) (x_ws y)) := by
        intro w hw
        unfold wsV at hw
        rcases List.mem_append.mp hw with hw | hw
        · refine x_tbl_good _ ?_
          simp only [List.mem_cons, List.not_mem_nil, or_false] at hw
          rcases hw with rfl | rfl | rfl | rfl
          · exact hw1
          · exact hw2
          · exact hw3
          · rw [← hcy]; exact k2
        · exact x_ws_good hy w hw
      refine va_runV (As := as.map (xc G)) (b := G.N + o) (rest := S1.map (xc G)) ⟨C.1, C.2.1, C.2.2.1, C.2.2.2.2.1, hT⟩ hM (cwV (x_np y) hT hG rfl hrc hrs ⟨hcy, k4, k5, k6⟩ ⟨hfr, hlo⟩) ⟨hbl, va_recv C.2.2.2.2.2.2.2.2.1 hR.2.1 hc (hR.at ho), hPc⟩ rfl (by rw [List.length_map]; rw [hna] at hlen; simpa using hlen) (by show ls.size = _; exact hL.1.1) ?_ (lv_room (by rw [xc_wd]; exact hq2)) hd hcs
      show S.map (xc G) = (as.map (xc G)).reverse ++ .ref (G.N + o) :: S1.map (xc G)
      rw [hst]
      simp [xc]
  · cases hF
theorem snd_callS {y ix ci : Nat} (hd : decode (x_cc mi) pc = .ok (.invokestatic ix, 3)) (hy : y < x_cnt) (hna : x_na y = x_np y) (hw1 : Cond.methodLink (x_on (x_ow mi)) ix (x_nm y) ∈ x_tbl) (hw2 : Cond.static (x_nm y) ∈ x_tbl) : xSnd mi pc (fun _ => x_call y (x_na y) (xrk 0 ci)) := by
  refine xSnd.call ?_
  intro G p l e R s m args below meth c n0 C L S h y' as pc' S' hF
  unfold x_call at hF
  dsimp only at hF
  split at hF
  · rename_i hq
    obtain ⟨hq1, hq2, hq3⟩ := hq
    cases hF
    refine ⟨hy, rfl, fun H locs ls cells slots rm Pc Qc mc ms free hR hL hS hM hrc hrs hfr hlo hbl hPc hcs => ?_⟩
    obtain ⟨k1, k2, k3, k4, k5, k6, k7⟩ := x_okm_at hy
    have hst := xcall_st hq1
    have hlen : ((S.take (x_na y)).reverse).length = x_na y := by rw [List.length_reverse, List.length_take]; omega
    generalize (S.take (x_na y)).reverse = as at hst hlen hq3 hPc ⊢
    generalize S.drop (x_na y) = S1 at hst hq2 ⊢
    have hT := C.2.2.2.2.2.1
    have hG : GoodIn x_tbl (va_wsS (x_on (x_ow mi)) ix (x_nm y) (x_ws y)) := by
      intro w hw
      unfold va_wsS at hw
      rcases List.mem_append.mp hw with hw | hw
      · refine x_tbl_good _ ?_
        simp only [List.mem_cons, List.not_mem_nil, or_false] at hw
        rcases hw with rfl | rfl | rfl
        · exact hw1
        · exact hw2
        · exact k2
      · exact x_ws_good hy w hw
    refine va_runS (As := as.map (xc G)) (rest := S1.map (xc G)) ⟨C.1, C.2.1, C.2.2.1, C.2.2.2.2.1, hT⟩ hM (va_cwS (x_np y) hT hG rfl hrc hrs ⟨k4, k5, k6⟩ ⟨hfr, hlo⟩) ⟨hbl, hPc⟩ rfl (by rw [List.length_map, hlen, hna]) (by show ls.size = _; exact hL.1.1) ?_ (lv_room (by rw [xc_wd]; exact hq2)) hd hcs
    show S.map (xc G) = (as.map (xc G)).reverse ++ S1.map (xc G)
    rw [hst]
    simp
  · cases hF
theorem snd_callN {y ix ci : Nat} {own nm : String} (hd : decode (x_cc mi) pc = .ok (.invokestatic ix, 3)) (hy : y < x_cnt) (hna : x_na y = x_np y) (ho : x_on (x_ow mi) = own) (hny : x_nm y = ⟨"FilmPrinter", nm, "(III)I"⟩) (hw1 : (own, ix, nm) ∈ [("FilmPrinter$Asker", 54, "nearest"), ("FilmPrinter$Edition", 63, "turnAfter"), ("FilmPrinter$Edition", 73, "nearest"), ("FilmPrinter$Explainer", 80, "turnAfter"), ("FilmPrinter$State", 99, "nearest")]) (hw2 : Cond.static (x_nm y) ∈ x_tbl) : xSnd mi pc (fun _ => x_call y (x_na y) (xrk 1 ci)) := by
  refine xSnd.call ?_
  intro G p l e R s m args below meth c n0 C L S h y' as pc' S' hF
  unfold x_call at hF
  dsimp only at hF
  split at hF
  · rename_i hq
    obtain ⟨hq1, hq2, hq3⟩ := hq
    cases hF
    refine ⟨hy, rfl, fun H locs ls cells slots rm Pc Qc mc ms free hR hL hS hM hrc hrs hfr hlo hbl hPc hcs => ?_⟩
    obtain ⟨k1, k2, k3, k4, k5, k6, k7⟩ := x_okm_at hy
    have hst := xcall_st hq1
    have hlen : ((S.take (x_na y)).reverse).length = x_na y := by rw [List.length_reverse, List.length_take]; omega
    generalize (S.take (x_na y)).reverse = as at hst hlen hq3 hPc ⊢
    generalize S.drop (x_na y) = S1 at hst hq2 ⊢
    have hT := C.2.2.2.2.2.1
    have hown := C.2.2.2.2.1
    rw [ho] at hown
    have hl : va_Nw (.methodLinkNest own ix (x_nm y) "FilmPrinter") s := by
      rw [hny]
      exact C.2.2.2.2.2.2.2.2.2.1.2.2.2.2.2.2.2.2.1.2.1 (own, ix, nm) hw1
    refine va_runSN (As := as.map (xc G)) (rest := S1.map (xc G)) ⟨C.1, C.2.1, C.2.2.1, hown, hT⟩ hM ⟨va_cnB (x_np y) hT (x_ws_good hy) rfl hrc hrs hl (hT _ k2) ⟨k4, k5, k6⟩ ⟨hfr, hlo⟩, hT _ hw2, trivial⟩ ⟨hbl, hPc⟩ rfl (by rw [List.length_map, hlen, hna]) (by show ls.size = _; exact hL.1.1) ?_ (lv_room (by rw [xc_wd]; exact hq2)) hd hcs
    show S.map (xc G) = (as.map (xc G)).reverse ++ S1.map (xc G)
    rw [hst]
    simp
  · cases hF
end
