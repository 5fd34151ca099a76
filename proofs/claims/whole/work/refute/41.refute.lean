def x_XR (L : Nat) (xs : Nat → Int32) : xX := fun j => match j with
  | 0 => (0, L, fun i => (xs i).toInt)
  | 1 => (0, 7, fun i => (x_low.getD i 0).toInt)
  | 2 => (0, 7, fun i => (x_high.getD i 0).toInt)
  | 3 => (7, 7, fun _ => 0)
  | 4 => (9, 0, fun _ => 0)
  | j + 5 => if j < 14 then (3, x_slen.getD j 0, fun i => ((x_sbyt.getD j []).getD i 0).toInt) else (9, 0, fun _ => 0)
theorem x_ctxR {p : Program} {s : State} {m : MethodId} {meth : Method} {c : Code} {b L : Nat} {xs : Nat → Int32} (hL : L ≤ 3584) (C0 : lw_At p s m meth c b L xs) (hO : ∀ t, (Term.static "FilmPrinter" "FIRST_TERM" "[I").eval #[Value.ref b] s none [] s = some (.ref t) → va_O "[R" t (fun q : Nat => s.heap.size ≤ q) s s.heap ∧ ∀ w ∈ x_rw, va_Nw w s) : ∃ G : xG, G.X = x_XR L xs ∧ G.N = s.heap.size ∧ G.ea 0 = some b ∧ xCx G 215 0 p s m #[Value.ref b] meth c := by
  obtain ⟨hx, hb, hr, hml, hown, hts, hX, hbl, hlocks, hgv⟩ := C0
  have hn : ∀ w ∈ x_nar, w.before #[Value.ref b] s = true := flat_of_before _ hgv
  have hA : ∀ a : Nat, a < s.heap.size → ¬ (fun q : Nat => s.heap.size ≤ q) a := fun a h => Nat.not_le.mpr h
  obtain ⟨D, hD⟩ := x_clsK hts
  obtain ⟨cI, i1, i2⟩ := x_arrK (hts _ x_h_ai)
  obtain ⟨cZ, z1, z2⟩ := x_arrK (hts _ x_h_az)
  obtain ⟨cJ, j1, j2⟩ := x_arrK (hts _ x_h_al)
  obtain ⟨cS, s1, s2⟩ := x_ovK (hts _ x_h_ov)
  obtain ⟨t1, a1, a2⟩ := x_arr_at (A := fun q : Nat => s.heap.size ≤ q) hn hA x_nA_low
  obtain ⟨t2, b1, b2⟩ := x_arr_at (A := fun q : Nat => s.heap.size ≤ q) hn hA x_nA_high
  obtain ⟨t3, c1, c2⟩ := x_arr_at (A := fun q : Nat => s.heap.size ≤ q) hn hA x_nA_first
  have hcs := hn _ (x_nC (.eq (.static "java/lang/String" "COMPACT_STRINGS" "Z") (.int 1)) (by simp))
  have hfm := hn _ (x_nC (.isRef (.static "jdk/internal/util/Preconditions" "SIOOBE_FORMATTER" "Ljava/util/function/BiFunction;")) (by simp))
  have hfq := va_Zqof (A := fun q : Nat => s.heap.size ≤ q) (hts _ x_h_ls_fm) (hts _ x_h_in_pre) hfm hA
  obtain ⟨fo, hfo⟩ : ∃ fo : Option Nat, va_Z "jdk/internal/util/Preconditions" "SIOOBE_FORMATTER" "Ljava/util/function/BiFunction;" (va_rf fo) (fun q : Nat => s.heap.size ≤ q) s s.heap := by
    rcases hfq with h | ⟨t, h⟩
    · exact ⟨none, h⟩
    · exact ⟨some t, h⟩
  have hst : ∀ j : Nat, ∃ q : Nat × Nat, j < 14 → (x_stm j).eval #[Value.ref b] s none [] s = some (.ref q.1) ∧ va_O "java/lang/String" q.1 (fun q : Nat => s.heap.size ≤ q) s s.heap ∧ va_OF "java/lang/String" "value" "[B" (.ref q.2) q.1 (fun q : Nat => s.heap.size ≤ q) s s.heap ∧ va_OF "java/lang/String" "coder" "B" (.int 0) q.1 (fun q : Nat => s.heap.size ≤ q) s s.heap ∧ va_T .byte q.2 (x_slen.getD j 0) (fun i => .int ((x_sbyt.getD j []).getD i 0)) (fun q : Nat => s.heap.size ≤ q) s s.heap := by
    intro j
    match j with
    | 0 => obtain ⟨q, h⟩ := x_str_at (A := fun q : Nat => s.heap.size ≤ q) hn hA x_nS0 (by decide); exact ⟨q, fun _ => h⟩
    | 1 => obtain ⟨q, h⟩ := x_str_at (A := fun q : Nat => s.heap.size ≤ q) hn hA x_nS1 (by decide); exact ⟨q, fun _ => h⟩
    | 2 => obtain ⟨q, h⟩ := x_str_at (A := fun q : Nat => s.heap.size ≤ q) hn hA x_nS2 (by decide); exact ⟨q, fun _ => h⟩
    | 3 => obtain ⟨q, h⟩ := x_str_at (A := fun q : Nat => s.heap.size ≤ q) hn hA x_nS3 (by decide); exact ⟨q, fun _ => h⟩
    | 4 => obtain ⟨q, h⟩ := x_str_at (A := fun q : Nat => s.heap.size ≤ q) hn hA x_nS4 (by decide); exact ⟨q, fun _ => h⟩
    | 5 => obtain ⟨q, h⟩ := x_str_at (A := fun q : Nat => s.heap.size ≤ q) hn hA x_nS5 (by decide); exact ⟨q, fun _ => h⟩
    | 6 => obtain ⟨q, h⟩ := x_str_at (A := fun q : Nat => s.heap.size ≤ q) hn hA x_nS6 (by decide); exact ⟨q, fun _ => h⟩
    | 7 => obtain ⟨q, h⟩ := x_str_at (A := fun q : Nat => s.heap.size ≤ q) hn hA x_nS7 (by decide); exact ⟨q, fun _ => h⟩
    | 8 => obtain ⟨q, h⟩ := x_str_at (A := fun q : Nat => s.heap.size ≤ q) hn hA x_nS8 (by decide); exact ⟨q, fun _ => h⟩
    | 9 => obtain ⟨q, h⟩ := x_str_at (A := fun q : Nat => s.heap.size ≤ q) hn hA x_nS9 (by decide); exact ⟨q, fun _ => h⟩
    | 10 => obtain ⟨q, h⟩ := x_str_at (A := fun q : Nat => s.heap.size ≤ q) hn hA x_nS10 (by decide); exact ⟨q, fun _ => h⟩
    | 11 => obtain ⟨q, h⟩ := x_str_at (A := fun q : Nat => s.heap.size ≤ q) hn hA x_nS11 (by decide); exact ⟨q, fun _ => h⟩
    | 12 => obtain ⟨q, h⟩ := x_str_at (A := fun q : Nat => s.heap.size ≤ q) hn hA x_nS12 (by decide); exact ⟨q, fun _ => h⟩
    | 13 => obtain ⟨q, h⟩ := x_str_at (A := fun q : Nat => s.heap.size ≤ q) hn hA x_nS13 (by decide); exact ⟨q, fun _ => h⟩
    | j + 14 => exact ⟨(0, 0), fun h => absurd h (by omega)⟩
  obtain ⟨ad, had⟩ := Classical.axiomOfChoice hst
  have hsr : ∀ j : Nat, j < 14 → (x_wstr j).before #[Value.ref b] s = true := by
    intro j hj
    match j, hj with
    | 0, _ => exact hts _ x_h_str0
    | 1, _ => exact hts _ x_h_str1
    | 2, _ => exact hts _ x_h_str2
    | 3, _ => exact hts _ x_h_str3
    | 4, _ => exact hts _ x_h_str4
    | 5, _ => exact hts _ x_h_str5
    | 6, _ => exact hts _ x_h_str6
    | 7, _ => exact hts _ x_h_str7
    | 8, _ => exact hts _ x_h_str8
    | 9, _ => exact hts _ x_h_str9
    | 10, _ => exact hts _ x_h_str10
    | 11, _ => exact hts _ x_h_str11
    | 12, _ => exact hts _ x_h_str12
    | 13, _ => exact hts _ x_h_str13
    | j + 14, hj => omega
  refine ⟨(D, fun k => match k with
    | 0 => cI
    | 1 => cZ
    | 2 => cJ
    | _ => cS, s.heap.size, fun j => match j with
    | 0 => some b
    | 1 => some t1
    | 2 => some t2
    | 3 => some t3
    | 4 => fo
    | j + 5 => some (ad j).2, fun j => (ad j).1, x_XR L xs), rfl, rfl, rfl, hx, hb, hml, hr, hown, fun w hw => hts w (List.mem_filter.mp hw).1, hlocks, fun h => absurd h (by decide +kernel), ⟨hD, fun k q hk => ?_⟩, ⟨fun j hj => ?_, fun j hj => ?_, va_Zof (hts _ x_h_ls_low) (hts _ x_h_in_fp) a1 hA, va_Zof (hts _ x_h_ls_high) (hts _ x_h_in_fp) b1 hA, va_Zof (hts _ x_h_ls_first) (hts _ x_h_in_fp) c1 hA, va_Zof (hts _ x_h_ls_cs) (hts _ x_h_in_str) (va_eqt hcs) hA, hfo, fun j hj => ?_, ⟨va_Nw.of rfl (hts _ x_h_fln), fun q hq => ?_, va_Nw.of rfl (hts _ x_h_cst), fun _ => ⟨t3, rfl, (hO t3 c1).1, (hO t3 c1).2⟩, fun a h0 _ => absurd h0 (show ¬ (7 : Nat) = 0 by decide)⟩, va_AO.of (hts _ x_h_ov)⟩, rfl⟩
  · match k, hk with
    | 0, hk => cases hk; exact ⟨i2, i1⟩
    | 1, hk => cases hk; exact ⟨z2, z1⟩
    | 2, hk => cases hk; exact ⟨j2, j1⟩
    | 3, hk => cases hk; exact ⟨s1, s2⟩
    | k + 4, hk => simp [xtys] at hk
  · match j, hj with
    | 0, _ =>
      refine ⟨b, rfl, ?_⟩
      obtain ⟨scr, q1, q2, q3, q4, q5⟩ := hX
      refine ⟨scr, q1, q2, q3, by rw [q4]; exact Nat.le_refl _, by rw [q4]; rfl, fun i hi => ?_, hA b hbl⟩
      have e : Int32.ofInt (xs i).toInt = xs i := Int32.ofInt_toInt _
      show scr.slots[i]? = some (.int (Int32.ofInt (xs i).toInt))
      rw [e]
      exact q5 i hi
    | 1, _ =>
      refine ⟨t1, rfl, ?_⟩
      have e : (fun i => Value.int (Int32.ofInt (x_low.getD i 0).toInt)) = fun i => Value.int (x_low.getD i 0) := by funext i; rw [Int32.ofInt_toInt]
      show va_T .int t1 7 (fun i => .int (Int32.ofInt (x_low.getD i 0).toInt)) _ s s.heap
      rw [e]; exact a2
    | 2, _ =>
      refine ⟨t2, rfl, ?_⟩
      have e : (fun i => Value.int (Int32.ofInt (x_high.getD i 0).toInt)) = fun i => Value.int (x_high.getD i 0) := by funext i; rw [Int32.ofInt_toInt]
      show va_T .int t2 7 (fun i => .int (Int32.ofInt (x_high.getD i 0).toInt)) _ s s.heap
      rw [e]; exact b2
    | 3, hj => cases hj
    | 4, hj => cases hj
    | j + 5, hj =>
      by_cases h14 : j < 14
      · have e : (x_XR L xs (j + 5)).1 = 3 := by show (if j < 14 then _ else _ : Nat × Nat × (Nat → Int)).1 = 3; rw [if_pos h14]
        have hj : (x_XR L xs (j + 5)).1 = 0 := hj
        rw [e] at hj
        cases hj
      · have e : (x_XR L xs (j + 5)).1 = 9 := by show (if j < 14 then _ else _ : Nat × Nat × (Nat → Int)).1 = 9; rw [if_neg h14]
        have hj : (x_XR L xs (j + 5)).1 = 0 := hj
        rw [e] at hj
        cases hj
  · match j, hj with
    | 0, hj => cases hj
    | 1, hj => cases hj
    | 2, hj => cases hj
    | 3, hj => cases hj
    | 4, hj => cases hj
    | j + 5, hj =>
      by_cases h14 : j < 14
      · have e : x_XR L xs (j + 5) = (3, x_slen.getD j 0, fun i => ((x_sbyt.getD j []).getD i 0).toInt) := by show (if j < 14 then _ else _ : Nat × Nat × (Nat → Int)) = _; rw [if_pos h14]
        refine ⟨(ad j).2, rfl, ?_⟩
        show va_T .byte (ad j).2 (x_XR L xs (j + 5)).2.1 (fun i => .int (Int32.ofInt ((x_XR L xs (j + 5)).2.2 i))) _ s s.heap
        rw [e]
        have e2 : (fun i => Value.int (Int32.ofInt ((x_sbyt.getD j []).getD i 0).toInt)) = fun i => Value.int ((x_sbyt.getD j []).getD i 0) := by funext i; rw [Int32.ofInt_toInt]
        show va_T .byte (ad j).2 (x_slen.getD j 0) (fun i => .int (Int32.ofInt ((x_sbyt.getD j []).getD i 0).toInt)) _ s s.heap
        rw [e2]
        exact (had j h14).2.2.2.2
      · have e : (x_XR L xs (j + 5)).1 = 9 := by show (if j < 14 then _ else _ : Nat × Nat × (Nat → Int)).1 = 9; rw [if_neg h14]
        have hj : (x_XR L xs (j + 5)).1 = 3 := hj
        rw [e] at hj
        cases hj
  · obtain ⟨g1, g2, g3, g4, g5⟩ := had j hj
    exact ⟨g2, g3, g4, vk_R.of (hsr j hj) g1⟩
  · simp only [List.mem_cons, List.not_mem_nil, or_false] at hq
    rcases hq with rfl | rfl | rfl | rfl | rfl
    · exact va_Nw.of rfl (hts _ x_h_nst0)
    · exact va_Nw.of rfl (hts _ x_h_nst1)
    · exact va_Nw.of rfl (hts _ x_h_nst2)
    · exact va_Nw.of rfl (hts _ x_h_nst3)
    · exact va_Nw.of rfl (hts _ x_h_nst4)
/-! THE REFUTATION: a start that the Statement allows, and from which the law answers 0 -/
def lwR_Q (_ : Array Value) (_ : State) (o : Outcome) (_ : State) : Prop := o = .returned (some (.int 0))
def lwR_Z (below : List Frame) (a : Array Value) (s : State) : State → Prop := fun t => ∃ o, t.status = .running ∧ Ended t below o ∧ lwR_Q a s o t
theorem lwR_ret {p : Program} {l : Launch} {e : Env} {s : State} {m : MethodId} {below : List Frame} {meth : Method} {c : Code} {b : Nat} (hx : p.tables.exec = Jvm.exec) (hb : c.code = code) (hr : meth.sig.returnType = ret) (hlocks : meth.locks = false) {pc : Nat} {H : Heap} {locs : List Loc} {cells slots : Nat} {ls : Array Slot} (hdg : decode code pc = .ok (.ireturn, 1)) : W p l e room_1 s m #[Value.ref b] below meth c H locs cells slots (lwR_Z below #[Value.ref b] s) (F0 m pc ls [.int 0]) := by
  intro T hT X
  obtain ⟨fs, hret, hrun, hended, hW, hframe⟩ := X.leave (v := some (.int 0)) (hlocks := hlocks) (fun h => by rw [hr] at h; cases h)
  have hmeth' : T.vm.method? m = some meth := X.method'
  refine ⟨T.setFrames fs, ?_, .returned (some (.int 0)), hrun, hended, rfl⟩
  jvm_step X.here [X.here.top, hx, hb, hdg, hmeth', hr, ret, narrow_b0]
  (try refine ⟨rfl, ?_⟩); (try refine ⟨rfl, ?_⟩)
  first | (intro acts; rw [hret _ acts rfl rfl rfl]) | rw [hret _ _ rfl rfl rfl]
  exact Steps.refl _
/-- the script: terms(0, 5) -/
def x_sR : Nat → Int32 := fun i => ([2, 0, 5, 0, 0, 0, 0] : List Int32).getD i 0
/-- what the abstract machine says: the class answers 0 (its terms are seven zeros), the reference 4, the law false -/
theorem x_runR : (xq (xP x_T (x_XR 7 x_sR)) x_ml 20000 20 215 0 (xent 4 [vE 0]) [] x_h0).map (fun q => decide (q.1 = some (vI 0)) && (Nat.ble q.2.2.1 600000 && Nat.ble q.2.2.2 7302250)) = some true := by decide +kernel
theorem start1.r_walk (l : Launch) : MetFree l x (headSpec (Jvm.Cond.code x code maxLocals ret :: tables_1) room_1) (fun a s => a = args0 ∧ s = rogue) (fun _ _ _ _ _ => True) lwR_Q := by
  refine MetFree.of_bodyS (code := code) (maxLocals := maxLocals) (ret := ret) (by decide) ?_ ?_
  · intro args s m h hn
    obtain ⟨meth, c, h1, h2, h3, h4, h5, h6, -, -⟩ := Cond.code_spec hn (atoms_spec (ws := Jvm.Cond.code x code maxLocals ret :: tables_1) h _ List.mem_cons_self)
    exact ⟨meth, c, h1, h2, h3, h4, h5, h6⟩
  · intro p e s m args below meth c s₁ B hml0 hP _
    obtain ⟨rfl, hs⟩ := hP
    have hown : s.vm.findClass R_law = some m.cls := findClass_of_methodNamed B.named
    have hts0 : ∀ c ∈ (Jvm.Cond.code x code maxLocals ret :: tables_1), c.before #[Value.ref 0] s = true := atoms_spec (ws := Jvm.Cond.code x code maxLocals ret :: tables_1) B.pre
    have hts : ∀ w ∈ lw_tbl, w.before #[Value.ref 0] s = true := k2_hts_sels lw_privs (fun w hw => hts0 w (List.mem_cons_of_mem _ hw)) lw_privs_ok
    have hml : c.maxLocals = 4 := B.maxLocals_eq (hts0 _ List.mem_cons_self)
    have X₀ : Stand p l e room_1 s m #[Value.ref 0] below meth c s₁ [] 0 0 := Stand.of_body B
    have hh0 : s₁.heap = s.heap := by rw [B.state]; rfl
    have hgv : (Jvm.Cond.and given_1 narrow_1).before #[Value.ref 0] s = true := by rw [hs]; exact r_atStart.2.2.2.2.2.2.2.2.2.2.2.2
    have hX : va_X 0 7 x_sR s s.heap := by
      rw [hs]
      refine ⟨{ cls := 23, slots := scrR, vm := .none }, rfl, ⟨(fun k h => by cases h), _, rfl, 22, rfl⟩, (fun h => by cases h), rfl, fun j hj => ?_⟩
      match j, hj with
      | 0, _ => rfl
      | 1, _ => rfl
      | 2, _ => rfl
      | 3, _ => rfl
      | 4, _ => rfl
      | 5, _ => rfl
      | 6, _ => rfl
    have hO : ∀ t, (Term.static "FilmPrinter" "FIRST_TERM" "[I").eval #[Value.ref 0] s none [] s = some (.ref t) → va_O "[R" t (fun q : Nat => s.heap.size ≤ q) s s.heap ∧ ∀ w ∈ x_rw, va_Nw w s := by
      rw [hs]
      intro t ht
      have e : (Term.static "FilmPrinter" "FIRST_TERM" "[I").eval #[Value.ref 0] rogue none [] rogue = some (.ref 5) := by decide +kernel
      rw [e] at ht
      cases ht
      refine ⟨⟨{ cls := 31, slots := #[.int (4), .int (3), .int (5), .int (500), .int (20), .int (10), .int (10)], vm := .none }, by rfl, rfl, by decide +kernel, by show ¬ rogue.heap.size ≤ 5; decide +kernel⟩, fun w hw => ?_⟩
      unfold x_rw at hw
      rcases List.mem_cons.mp hw with rfl | hw
      · exact r_rw0
      · exact List.all_eq_true.mp r_rw1 w hw
    obtain ⟨G, g1, g2, g3, C⟩ := x_ctxR (by decide) ⟨B.exec, B.bytes, B.returns, hml, hown, hts, hX, by rw [hs]; decide +kernel, B.notSynchronized, hgv⟩ hO
    have hrun := x_runR
    obtain ⟨⟨r, h'⟩, hq, hz⟩ := Option.map_eq_some_iff.mp hrun
    rw [Bool.and_eq_true, Bool.and_eq_true] at hz
    have hr0 : r = some (vI 0) := of_decide_eq_true hz.1
    subst hr0
    have hn := Nat.le_of_ble_eq_true hz.2.1
    have hz2 := Nat.le_of_ble_eq_true hz.2.2
    rw [← g1] at hq
    have hW := xmain x_T_snd x_T_gr G l 20000 20 215 0 (xent 4 [vE 0]) [] x_h0 (some (vI 0)) h' hq p e room_1 s m #[Value.ref 0] below meth c (lwR_Z below #[Value.ref 0] s) 0 0 C (by decide) (by decide) (by show h'.2.1 ≤ 600000 + 0; exact hn) (by show h'.2.2 ≤ 7302250 + 0; exact hz2) ?_
    · have e1 : ([Value.ref 0] : List Value) = [vE 0].map (xc G) := by
        show [Value.ref 0] = [va_rf (G.ea 0)]
        rw [g3]
        rfl
      have h1 := hW s.heap [] _ 0 0 (x_rel0 g2) (xLR_entry (by decide)) va_S.rf rfl rfl
      rw [← e1] at h1
      have K : W p l e room_1 s m #[Value.ref 0] below meth c s₁.heap [] 0 0 (lwR_Z below #[Value.ref 0] s) (entryFrame m ([Value.ref 0] : List Value).toArray 4) := by
        rw [hh0, lg_entry_eq]
        exact h1
      obtain ⟨t, a1, o, b1, b2, b3⟩ := K s₁ rfl X₀
      exact ⟨t, o, a1, b1, b2, b3⟩
    · intro pc1 L1 S1 F hF hr H1 locs1 ls1 cells1 slots1 hR1 hL1 hS1 a1 a2
      obtain ⟨-, -, hC⟩ := x_T_snd 215 pc1 F hF
      rcases hC G.X L1 S1 h' (some (vI 0)) hr with ⟨x, ty, r1, rfl, b1, b2, b3⟩ | ⟨x, r1, rfl, b1, b2⟩ | ⟨r1, rfl, b1, b2⟩
      · cases r1
        exact lwR_ret C.1 C.2.1 C.2.2.2.1 C.2.2.2.2.2.2.1 b1
      · cases r1
      · cases r1
/-- WHOLE IS FALSE AS IT IS PRINTED -/
theorem start1.refuted : ¬ Claimed_1_2 := by
  intro h
  obtain ⟨a1, a2, a3, a4, a5, a6, a7, a8, a9, a10, a11, a12, a13⟩ := r_atStart
  obtain ⟨n, o, w1, w2, w3, w4⟩ := h launch0 rfl a1 a2 p0 e0 a3 a5 a6 rogue ⟨0, 0⟩ args0 Lib.HandBits.below0 a7 a8 a9 a10 ⟨a11, a12, a13⟩
  obtain ⟨k, o', v1, v2, v3, v4⟩ := r_walk launch0 p0 e0 a3 a5 a6 rogue ⟨0, 0⟩ args0 Lib.HandBits.below0 a7 ((Spec.applies_iff_loose a7).mp a10).1 ⟨rfl, rfl⟩ trivial
  obtain ⟨rfl, rfl⟩ := the_end_unique (f := fun k => stepsAlone p0.tables e0 k rogue) w1 w3 v1 v3
  have e : o = .returned (some (.int 0)) := v4
  subst e
  have h1 := w4.1
  simp [postC, limb_1_2, Cond.after, Cond.holds, Cond.value, Term.eval] at h1
