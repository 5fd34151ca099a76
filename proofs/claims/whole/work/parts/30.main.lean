/-! SOUNDNESS of runs -/
theorem xE.to {G : xG} {s U : State} {H : Heap} (hE : xE G s s.heap) (hW : s.WarmedH U.vm) (hq : ∀ a : Nat, a < s.heap.size → ¬ xA G a → H[a]? = s.heap[a]?) : xE G U H := by
  obtain ⟨e1, e2, e3, e4, e5, e6, e7, e8, ⟨e9, e10, e11, e14, e12⟩, e13⟩ := hE
  have hA := hW.alike
  refine ⟨fun j hj => ?_, fun j hj => ?_, (e3.kept hq).moved hA, (e4.kept hq).moved hA, (e5.kept hq).moved hA, (e6.kept hq).moved hA, (e7.kept hq).moved hA, fun j hj => ?_, ⟨e9.warmF hW, fun q hq => (e10 q hq).warmM hW, e11.warmC hW, fun h7 => ?_, fun a h0 ha => ?_⟩, e13.moved hA⟩
  · obtain ⟨a, ha, hT⟩ := e1 j hj
    exact ⟨a, ha, (hT.kept hq).moved hA⟩
  · obtain ⟨a, ha, hT⟩ := e2 j hj
    exact ⟨a, ha, (hT.kept hq).moved hA⟩
  · obtain ⟨g1, g2, g3, g4⟩ := e8 j hj
    exact ⟨(g1.kept hq).moved hA, (g2.kept hq).moved hA, (g3.kept hq).moved hA, g4.warm hW⟩
  · obtain ⟨a, ha, g1, g2⟩ := e14 h7
    refine ⟨a, ha, (g1.kept hq).moved hA, fun w hw => ?_⟩
    have hon : w.onTables = true := List.all_eq_true.mp (show x_rw.all (fun w => w.onTables) = true by decide +kernel) w hw
    have hg := good_of_word (List.all_eq_true.mp (show x_rw.all goodWord = true by decide +kernel) w hw)
    exact va_Nw.of hon (word_at (a' := #[]) hW hg (g2 w hw))
  · obtain ⟨vmd, g1, g2, g3, g4⟩ := e12 a h0 ha
    exact ⟨vmd, by rw [hq a (Array.getElem?_eq_some_iff.mp g1).1 g4]; exact g1, g2, g3, g4⟩
theorem xE.calling {G : xG} {U : State} {H : Heap} (hE : xE G U H) (g : JFrame) (mk : MethodId) (a : Array Value) : xE G (U.calling g mk a) H := by
  obtain ⟨e1, e2, e3, e4, e5, e6, e7, e8, ⟨e9, e10, e11, e14, e12⟩, e13⟩ := hE
  have hA : U.vm.Alike (U.calling g mk a).vm := Vm.Alike.refl U.vm
  refine ⟨fun j hj => ?_, fun j hj => ?_, e3.moved hA, e4.moved hA, e5.moved hA, e6.moved hA, e7.moved hA, fun j hj => ?_, ⟨e9.same rfl rfl, fun q hq => (e10 q hq).same rfl rfl, e11.same rfl rfl, fun h7 => ?_, e12⟩, e13.moved hA⟩
  · obtain ⟨a, ha, hT⟩ := e1 j hj
    exact ⟨a, ha, hT.moved hA⟩
  · obtain ⟨a, ha, hT⟩ := e2 j hj
    exact ⟨a, ha, hT.moved hA⟩
  · obtain ⟨g1, g2, g3, g4⟩ := e8 j hj
    exact ⟨g1.moved hA, g2.moved hA, g3.moved hA, g4.same rfl⟩
  · obtain ⟨a', ha, g1, g2⟩ := e14 h7
    refine ⟨a', ha, g1.moved hA, fun w hw => ?_⟩
    have hon : w.onTables = true := List.all_eq_true.mp (show x_rw.all (fun w => w.onTables) = true by decide +kernel) w hw
    exact va_Nw.same hon (u := U) (U := U.calling g mk a) rfl (g2 w hw)
-- a method's first locals
theorem xlo_len (G : xG) (as : List xV) : (lg_sl (as.map (xc G))).length = (xlo as).length := by
  induction as with
  | nil => rfl
  | cons v as ih =>
    have e1 : lg_sl ((v :: as).map (xc G)) = (if (xc G v).category = 2 then [Slot.val (xc G v), Slot.second] else [Slot.val (xc G v)]) ++ lg_sl (as.map (xc G)) := by simp [lg_sl]
    have e2 : (xlo (v :: as)).length = xcat v + (xlo as).length := by
      unfold xlo
      rw [List.flatMap_cons, List.length_append]
      congr 1
      match v with
      | .inl _ => rfl
      | .inr (.inl _) => rfl
      | .inr (.inr (.inl _)) => rfl
      | .inr (.inr (.inr (.inl _))) => rfl
      | .inr (.inr (.inr (.inr (.inl _)))) => rfl
      | .inr (.inr (.inr (.inr (.inr _)))) => rfl
    rw [e1, e2, List.length_append, ih, xc_catE]
    congr 1
    by_cases h : xcat v = 2
    · rw [if_pos h, h]; rfl
    · rw [if_neg h]
      have : xcat v = 1 := by
        match v, h with
        | .inl _, _ => rfl
        | .inr (.inl _), h => exact absurd rfl h
        | .inr (.inr (.inl _)), _ => rfl
        | .inr (.inr (.inr (.inl _))), _ => rfl
        | .inr (.inr (.inr (.inr (.inl _)))), _ => rfl
        | .inr (.inr (.inr (.inr (.inr _)))), _ => rfl
      rw [this]; rfl
theorem xlo_step1 {G : xG} {as : List xV} {w v : xV} {k i : Nat} (ih : ∀ (k i : Nat) (v : xV), (xlo as)[i]? = some v → v ≠ vU → (k + i, xc G v) ∈ lv_args k (as.map (xc G))) (h1 : xlo1 w = [w]) (h2 : ¬ xcat w = 2) (h : (xlo (w :: as))[i]? = some v) (hv : v ≠ vU) : (k + i, xc G v) ∈ lv_args k ((w :: as).map (xc G)) := by
  have e1 : xlo (w :: as) = w :: xlo as := by
    unfold xlo
    rw [List.flatMap_cons, h1]
    rfl
  rw [e1] at h
  show (k + i, xc G v) ∈ (k, xc G w) :: lv_args (if (xc G w).category = 2 then k + 2 else k + 1) (as.map (xc G))
  rw [xc_catE, if_neg h2]
  cases i with
  | zero =>
    have e2 : w = v := by simpa using h
    subst e2
    exact List.mem_cons_self
  | succ i =>
    have h' : (xlo as)[i]? = some v := by simpa using h
    refine List.mem_cons_of_mem _ ?_
    have e := ih (k + 1) i v h' hv
    have e3 : k + 1 + i = k + (i + 1) := by omega
    rw [e3] at e
    exact e
theorem xlo_at (G : xG) : ∀ (as : List xV) (k i : Nat) (v : xV), (xlo as)[i]? = some v → v ≠ vU → (k + i, xc G v) ∈ lv_args k (as.map (xc G)) := by
  intro as
  induction as with
  | nil => intro k i v h; simp [xlo] at h
  | cons w as ih =>
    intro k i v h hv
    match w with
    | .inl _ => exact xlo_step1 ih rfl (by show ¬ (1 : Nat) = 2; decide) h hv
    | .inr (.inl x) =>
      have e1 : xlo (vL x :: as) = vL x :: vU :: xlo as := by
        unfold xlo
        rw [List.flatMap_cons]
        rfl
      have h : (vL x :: vU :: xlo as)[i]? = some v := by rw [← e1]; exact h
      show (k + i, xc G v) ∈ (k, xc G (vL x)) :: lv_args (if (xc G (vL x)).category = 2 then k + 2 else k + 1) (as.map (xc G))
      rw [xc_catE, if_pos (show xcat (vL x) = 2 from rfl)]
      cases i with
      | zero =>
        have e2 : vL x = v := by simpa using h
        subst e2
        exact List.mem_cons_self
      | succ i =>
        cases i with
        | zero =>
          have e2 : vU = v := by simpa using h
          exact absurd e2.symm hv
        | succ i =>
          have h' : (xlo as)[i]? = some v := by simpa using h
          refine List.mem_cons_of_mem _ ?_
          have e := ih (k + 2) i v h' hv
          have e3 : k + 2 + i = k + (i + 1 + 1) := by omega
          rw [e3] at e
          exact e
    | .inr (.inr (.inl _)) => exact xlo_step1 ih rfl (by show ¬ (1 : Nat) = 2; decide) h hv
    | .inr (.inr (.inr (.inl _))) => exact xlo_step1 ih rfl (by show ¬ (1 : Nat) = 2; decide) h hv
    | .inr (.inr (.inr (.inr (.inl _)))) => exact xlo_step1 ih rfl (by show ¬ (1 : Nat) = 2; decide) h hv
    | .inr (.inr (.inr (.inr (.inr _)))) => exact xlo_step1 ih rfl (by show ¬ (1 : Nat) = 2; decide) h hv
theorem xLR_entry {G : xG} {as : List xV} {n : Nat} (h : (xlo as).length ≤ n) : xLR G ((lg_sl (as.map (xc G)) ++ List.replicate (n - (lg_sl (as.map (xc G))).length) Slot.unset).toArray) n (xent n as) := by
  have h0 := lv_entry (as.map (xc G)) (n := n) (by rw [xlo_len]; exact h)
  refine ⟨⟨h0.1, h0.2.1, fun q hq => h0.2.2 q ?_⟩, ?_⟩
  · obtain ⟨v, h1, h2, h3⟩ := xlv_mem.mp hq
    unfold xent at h1
    by_cases hl : q.1 < (xlo as).length
    · rw [List.getElem?_append_left hl] at h1
      have e := xlo_at G as 0 q.1 v h1 h2
      rw [Nat.zero_add, ← h3] at e
      exact e
    · rw [List.getElem?_append_right (by omega), List.getElem?_replicate] at h1
      split at h1
      · cases h1; exact absurd rfl h2
      · cases h1
  · unfold xent
    rw [List.length_append, List.length_replicate]
    omega
/-- the table of a program, with the outer arrays put in -/
def xP (T : Nat → Nat → Option (xX → xF)) (X : xX) : Nat → Nat → Option xF := fun m pc => (T m pc).map (fun F => F X)
theorem xq_grow {T : Nat → Nat → Option (xX → xF)} {X : xX} (hM : ∀ mi pc F X L S h pc' L' S' h', T mi pc = some F → F X pc L S h = some (.inl (pc', L', S', h')) → h.2.1 ≤ h'.2.1 ∧ h.2.2 ≤ h'.2.2) :
    ∀ (f d m pc : Nat) (L S : List xV) (h : xH) (r : Option xV) (h' : xH), xq (xP T X) x_ml f d m pc L S h = some (r, h') → h.2.1 ≤ h'.2.1 ∧ h.2.2 ≤ h'.2.2 := by
  intro f
  induction f with
  | zero => intro d m pc L S h r h' hz; simp [xq] at hz
  | succ f ih =>
    intro d m pc L S h r h' hz
    rw [xq] at hz
    cases hP : xP T X m pc with
    | none => rw [hP] at hz; cases hz
    | some F =>
      rw [hP] at hz
      dsimp only at hz
      obtain ⟨F0', hF0, rfl⟩ := Option.map_eq_some_iff.mp hP
      cases hF : F0' X pc L S h with
      | none => rw [hF] at hz; cases hz
      | some q =>
        rw [hF] at hz
        match q, hF, hz with
        | .inl (pc2, L2, S2, h2), hF, hz =>
          have a1 := hM m pc F0' X L S h pc2 L2 S2 h2 hF0 hF
          have a2 := ih _ _ _ _ _ _ _ _ hz
          omega
        | .inr (.inr r2), hF, hz =>
          cases hz
          exact ⟨Nat.le_refl _, Nat.le_refl _⟩
        | .inr (.inl (y, as, pc2, S2)), hF, hz =>
          cases d with
          | zero => cases hz
          | succ d2 =>
            dsimp only at hz
            by_cases hl : (xlo as).length ≤ x_ml y
            · rw [if_pos hl] at hz
              cases hc : xq (xP T X) x_ml f d2 y 0 (xent (x_ml y) as) [] h with
              | none => rw [hc] at hz; cases hz
              | some w =>
                rw [hc] at hz
                obtain ⟨r1, h2⟩ := w
                have a1 := ih _ _ _ _ _ _ _ _ hc
                have a2 := ih _ _ _ _ _ _ _ _ hz
                omega
            · rw [if_neg hl] at hz
              cases hz
/-- a method's contract: one run of the abstract machine -/
def xPre (G : xG) (as : List xV) (h : xH) : Array Value → State → Prop := va_Pc (as.map (xc G)) (fun U => xRel G h U.heap ∧ va_K G.D x_cls (xtys G) U ∧ xE G U U.heap)
def xPost (G : xG) (r : Option xV) (h2 : xH) : Array Value → State → Outcome → State → Prop := fun _ st o t => o = .returned (r.map (xc G)) ∧ xRel G h2 t.heap ∧ ∀ q : Nat, q < G.N → t.heap[q]? = st.heap[q]?
def xRm (d mc ms : Nat) : Room := { frames := d + 1, cells := mc, slots := ms, locals := 64 * d + 64 }
theorem xPre_blind (G : xG) (as : List xV) (h : xH) : FrameBlind (xPre G as h) := fun a U g mk q => by
  obtain ⟨q0, q1, q2, q3⟩ := q
  exact ⟨q0, q1, va_K.moved (u := U) (U := U.calling g mk a) (Vm.Alike.refl U.vm) q2, q3.calling g mk a⟩
theorem x_ml_small : ∀ y, y < x_cnt → x_ml y ≤ 40 := by
  intro y hy
  have h : (List.range x_cnt).all (fun y => decide (x_ml y ≤ 40)) = true := by decide +kernel
  exact of_decide_eq_true (List.all_eq_true.mp h y (List.mem_range.mpr hy))
theorem xmain {T : Nat → Nat → Option (xX → xF)} (hT : ∀ mi pc F, T mi pc = some F → xSnd mi pc F) (hM : ∀ mi pc F X L S h pc' L' S' h', T mi pc = some F → F X pc L S h = some (.inl (pc', L', S', h')) → h.2.1 ≤ h'.2.1 ∧ h.2.2 ≤ h'.2.2) (G : xG) (l : Launch) :
    ∀ (f d mi pc : Nat) (L S : List xV) (h : xH) (r : Option xV) (h' : xH), xq (xP T G.X) x_ml f d mi pc L S h = some (r, h') →
    ∀ (p : Program) (e : Env) (R : Room) (s : State) (m : MethodId) (args : Array Value) (below : List Frame) (meth : Method) (c : Code) (Q : State → Prop) (n0 z0 : Nat), xCx G mi n0 p s m args meth c → d + 1 ≤ R.frames → 64 * d + 64 ≤ R.locals → h'.2.1 ≤ R.cells + n0 → h'.2.2 ≤ R.slots + z0 →
    (∀ (pc1 : Nat) (L1 S1 : List xV) (F : xX → xF), T mi pc1 = some F → F G.X pc1 L1 S1 h' = some (.inr (.inr r)) → xW G p l e R s m args below meth c n0 z0 Q mi pc1 L1 S1 h') → xW G p l e R s m args below meth c n0 z0 Q mi pc L S h := by
  intro f
  induction f with
  | zero => intro d mi pc L S h r h' hz; simp [xq] at hz
  | succ f ih =>
    intro d mi pc L S h r h' hz p e R s m args below meth c Q n0 z0 C hfr hlo hcl hsl hend
    rw [xq] at hz
    cases hP : xP T G.X mi pc with
    | none => rw [hP] at hz; cases hz
    | some F =>
      rw [hP] at hz
      dsimp only at hz
      obtain ⟨F0', hF0, rfl⟩ := Option.map_eq_some_iff.mp hP
      obtain ⟨hA, hB, -⟩ := hT mi pc F0' hF0
      cases hF : F0' G.X pc L S h with
      | none => rw [hF] at hz; cases hz
      | some q =>
        rw [hF] at hz
        match q, hF, hz with
        | .inl (pc2, L2, S2, h2), hF, hz =>
          have g2 := xq_grow hM _ _ _ _ _ _ _ _ _ hz
          obtain ⟨-, -, k⟩ := hA G p l e R s m args below meth c Q n0 z0 C L S h pc2 L2 S2 h2 hF
          exact k (by omega) (by omega) (by omega) (by omega) (ih d mi pc2 L2 S2 h2 r h' hz p e R s m args below meth c Q n0 z0 C hfr hlo hcl hsl hend)
        | .inr (.inr r2), hF, hz =>
          cases hz
          exact hend pc L S F0' hF0 hF
        | .inr (.inl (y, as, pc2, S2)), hF, hz =>
          cases d with
          | zero => cases hz
          | succ d2 =>
            dsimp only at hz
            by_cases hl : (xlo as).length ≤ x_ml y
            · rw [if_pos hl] at hz
              cases hc : xq (xP T G.X) x_ml f d2 y 0 (xent (x_ml y) as) [] h with
              | none => rw [hc] at hz; cases hz
              | some w =>
                rw [hc] at hz
                obtain ⟨r1, h2⟩ := w
                have g1 := xq_grow hM _ _ _ _ _ _ _ _ _ hc
                have g2 := xq_grow hM _ _ _ _ _ _ _ _ _ hz
                obtain ⟨hy, rfl, kB⟩ := hB G p l e R s m args below meth c n0 C L S h y as pc2 S2 hF
                -- the callee's contract
                have hMet : Met l (x_nm y) (x_ws y) (xRm d2 (h2.2.1 - h.2.1) (h2.2.2 - h.2.2)) (xPre G as h) (xPost G r1 h2) (h2.2.1 - h.2.1) (h2.2.2 - h.2.2) (xA G) := by
                  refine Met.ofW (cc := x_cc y) (maxL := x_ml y) (ret := x_rt y) (x_okm_at hy).2.2.1 rfl ?_
                  intro p' e' s' m' args' below' meth' c' s₁ B hml hv
                  obtain ⟨rfl, hR', hK', hE'⟩ := hv
                  have hts := atoms_spec (ws := x_ws y) B.pre
                  have hown : s'.vm.findClass (x_nm y).cls = some m'.cls := findClass_of_methodNamed B.named
                  rw [(x_okm_at hy).2.2.2.2.2.2] at hown
                  have C' : xCx G y h.2.1 p' s' m' (as.map (xc G)).toArray meth' c' := ⟨B.exec, B.bytes, hml, B.returns, hown, fun w hw => hts w (List.mem_cons_of_mem _ hw), B.notSynchronized, fun hn => by rw [(name_of_methodNamed B.named B.method).1]; exact hn, hK', hE', hR'.2.2⟩
                  have hW := ih d2 y 0 (xent (x_ml y) as) [] h r1 h2 hc p' e' (xRm d2 (h2.2.1 - h.2.1) (h2.2.2 - h.2.2)) s' m' (as.map (xc G)).toArray below' meth' c' (MQ below' (xPost G r1 h2) (as.map (xc G)).toArray s' (h2.2.1 - h.2.1) (h2.2.2 - h.2.2) (xA G)) h.2.1 h.2.2 C' (Nat.le_refl _) (Nat.le_refl _) (by show h2.2.1 ≤ (h2.2.1 - h.2.1) + h.2.1; omega) (by show h2.2.2 ≤ (h2.2.2 - h.2.2) + h.2.2; omega) ?_
                  · rw [lg_entry_eq]
                    exact hW s'.heap [] _ 0 0 hR' (xLR_entry hl) va_S.rf (Nat.zero_add _) (Nat.zero_add _)
                  · intro pc1 L1 S1 F hFt hFr H1 locs1 ls1 cells1 slots1 hR1 hL1 hS1 a1 a2
                    have e1 : cells1 = h2.2.1 - h.2.1 := by omega
                    have e2 : slots1 = h2.2.2 - h.2.2 := by omega
                    subst e1; subst e2
                    have hr' := B.returns
                    have hq : ∀ (t : State), t.heap = H1 → s'.WarmedH t.vm → xPost G r1 h2 (as.map (xc G)).toArray s' (.returned (r1.map (xc G))) t := fun t ht _ => ⟨rfl, by rw [ht]; exact hR1, fun q hq => by rw [ht]; exact hS1.2.1 q (by have := hR'.2.2; omega) (by show ¬ G.N ≤ q; omega)⟩
                    obtain ⟨-, -, hC⟩ := hT y pc1 F hFt
                    rcases hC G.X L1 S1 h2 r1 hFr with ⟨x, ty, rfl, rfl, b1, b2, b3⟩ | ⟨x, rfl, rfl, b1, b2⟩ | ⟨rfl, rfl, b1, b2⟩
                    · exact W.zret B.exec B.bytes (hr'.trans b2) b3 hq hS1.2.2 b1 (hlocks := B.notSynchronized)
                    · exact W.lret B.exec B.bytes (hr'.trans b2) hq hS1.2.2 b1 (hlocks := B.notSynchronized)
                    · exact W.vret B.exec B.bytes (hr'.trans b2) hq hS1.2.2 b1 (hlocks := B.notSynchronized)
                -- behind the call
                have hk := ih (d2 + 1) mi (pc + 3) L (r1.toList ++ S2) h2 r h' hz p e R s m args below meth c Q n0 z0 C hfr hlo hcl hsl hend
                intro H locs ls cells slots hR hL hS a1 a2 T0 hT0 X
                have hml40 := x_ml_small y hy
                obtain ⟨v, st₀, t, T', Lo, b0, X', bL, b1, b2, ⟨bv, bR, bq⟩, bst⟩ := kB H locs ls cells slots _ _ _ _ _ _ hR hL hS hMet rfl rfl (by show d2 + 1 + 1 ≤ R.frames; omega) (by show 8 + (x_ml y + 11) + (64 * d2 + 64) ≤ R.locals; omega) (xPre_blind G as h)
                  (fun U hU hW => ⟨rfl, by rw [hU]; exact hR, va_K.moved hW.alike C.2.2.2.2.2.2.2.2.1, by rw [hU]; exact C.2.2.2.2.2.2.2.2.2.1.to hW hS.2.1⟩) (by constructor <;> omega) T0 hT0 X
                cases bv
                have hS' : va_S (xA G) s.heap T'.heap (locs ++ Lo) := by
                  refine ⟨?_, fun q c1 c2 => ?_, fun q hq => ?_⟩
                  · rw [b1, bR.2.2, C.2.2.2.2.2.2.2.2.2.2]
                    omega
                  · have c3 : q < G.N := by
                      have : ¬ G.N ≤ q := c2
                      omega
                    rw [b1, bq q c3, b0]
                    exact hS.2.1 q c1 c2
                  · rcases List.mem_append.mp hq with hq | hq
                    · exact hS.2.2 q hq
                    · exact bL q hq
                obtain ⟨t2, d1, d3⟩ := hk T'.heap (locs ++ Lo) ls (cells + (h2.2.1 - h.2.1)) (slots + (h2.2.2 - h.2.2)) (by rw [b1]; exact bR) hL hS' (by omega) (by omega) T' rfl X'
                refine ⟨t2, bst t2 ?_, d3⟩
                have e3 : (r1.map (xc G)).toList ++ S2.map (xc G) = (r1.toList ++ S2).map (xc G) := by cases r1 <;> simp
                show Steps p.tables e below (T'.setTop (F0 m (pc + 3) ls ((r1.map (xc G)).toList ++ S2.map (xc G)))) t2
                rw [e3]
                exact d1
            · rw [if_neg hl] at hz
              cases hz
