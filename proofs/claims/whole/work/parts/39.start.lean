/-! THE LAW'S START -/
/-- the outer arrays: the script, the three static arrays, (4: no array), the texts' bytes -/
def x_X (L : Nat) (xs : Nat → Int32) : xX := fun j => match j with
  | 0 => (0, L, fun i => (xs i).toInt)
  | 1 => (0, 7, fun i => (x_low.getD i 0).toInt)
  | 2 => (0, 7, fun i => (x_high.getD i 0).toInt)
  | 3 => (0, 7, fun i => (x_first.getD i 0).toInt)
  | 4 => (9, 0, fun _ => 0)
  | j + 5 => if j < 14 then (3, x_slen.getD j 0, fun i => ((x_sbyt.getD j []).getD i 0).toInt) else (9, 0, fun _ => 0)
theorem x_str_at {args : Array Value} {s : State} {A : Nat → Prop} (hn : ∀ w ∈ x_nar, w.before args s = true) (hA : ∀ a : Nat, a < s.heap.size → ¬ A a) {j : Nat} (hw : ∀ w ∈ x_wS j, w ∈ x_nar) (hl : x_slen.getD j 0 < 2 ^ 31) :
    ∃ q : Nat × Nat, (x_stm j).eval args s none [] s = some (.ref q.1) ∧ va_O "java/lang/String" q.1 A s s.heap ∧ va_OF "java/lang/String" "value" "[B" (.ref q.2) q.1 A s s.heap ∧ va_OF "java/lang/String" "coder" "B" (.int 0) q.1 A s s.heap ∧ va_T .byte q.2 (x_slen.getD j 0) (fun i => .int ((x_sbyt.getD j []).getD i 0)) A s s.heap := by
  have h1 := hn _ (hw (.exactly (x_stm j) "java/lang/String") (by simp [x_wS]))
  have h2 := hn _ (hw (.eq (.field (x_stm j) "java/lang/String" "coder" "B") (.int 0)) (by simp [x_wS]))
  have h3 := hn _ (hw (.arrayOf (x_sval j) .byte) (by simp [x_wS]))
  have h4 := hn _ (hw (.eq (.length (x_sval j)) (.int (Int32.ofNat (x_slen.getD j 0)))) (by simp [x_wS]))
  have h5 : ∀ i, i < x_slen.getD j 0 → (Cond.eq (.elem (x_sval j) (.int (Int32.ofNat i))) (.int ((x_sbyt.getD j []).getD i 0))).before args s = true := fun i hi => hn _ (hw _ (List.mem_append_right _ (List.mem_map.mpr ⟨i, List.mem_range.mpr hi, rfl⟩)))
  obtain ⟨a, c, cA, kA, q1, q2, q3, q4, q5, q6, -⟩ := Cond.exactly_spec (args := args) (first := s) (o := none) (s := s) (idx := []) (t := x_stm j) (cls := "java/lang/String") h1
  obtain ⟨t, ht, hT⟩ := va_Tof (f := fun i => .int ((x_sbyt.getD j []).getD i 0)) (A := A) hl h3 (va_eqt h4) (fun i hi => va_eqt (h5 i hi)) hA
  exact ⟨(a, t), q1, ⟨cA, q3, q5, by rw [q6]; exact q2, hA a (Array.getElem?_eq_some_iff.mp q3).1⟩, vk_OFof q1 ht hA, vk_OFof q1 (va_eqt h2) hA, hT⟩
theorem x_arr_at {args : Array Value} {s : State} {A : Nat → Prop} (hn : ∀ w ∈ x_nar, w.before args s = true) (hA : ∀ a : Nat, a < s.heap.size → ¬ A a) {f : String} {v : List Int32} (hw : ∀ w ∈ x_wA f v, w ∈ x_nar) :
    ∃ t : Nat, (Term.static "FilmPrinter" f "[I").eval args s none [] s = some (.ref t) ∧ va_T .int t 7 (fun i => .int (v.getD i 0)) A s s.heap := by
  have h3 := hn _ (hw (.arrayOf (.static "FilmPrinter" f "[I") .int) (by simp [x_wA]))
  have h4 := hn _ (hw (.eq (.length (.static "FilmPrinter" f "[I")) (.int 7)) (by simp [x_wA]))
  have h5 : ∀ i, i < 7 → (Cond.eq (.elem (.static "FilmPrinter" f "[I") (.int (Int32.ofNat i))) (.int (v.getD i 0))).before args s = true := fun i hi => hn _ (hw _ (List.mem_append_right _ (List.mem_map.mpr ⟨i, List.mem_range.mpr hi, rfl⟩)))
  exact va_Tof (f := fun i => .int (v.getD i 0)) (A := A) (by decide) h3 (va_eqt h4) (fun i hi => va_eqt (h5 i hi)) hA
/-- WHAT THE STATEMENT DOESN'T SAY: FIRST_TERM's array is of the class called "[I", and has seven places. (Open.) -/
def x_Open (b : Nat) (s : State) : Prop := ∀ t, (Term.static "FilmPrinter" "FIRST_TERM" "[I").eval #[Value.ref b] s none [] s = some (.ref t) → ∃ (vmd : VmData) (cI : ClassId), s.vm.findClass "[I" = some cI ∧ s.heap[t]? = some { cls := cI, slots := (arrV cI 7 (fun i => .int (x_first.getD i 0))).slots, vm := vmd } ∧ (∀ k, vmd ≠ .statics k) ∧ vmd ≠ .unknown
theorem x_arrK {s : State} {args : Array Value} {ty : FieldType} (h : (Cond.arrayClass ty).before args s = true) : ∃ c : ClassId, s.vm.findClass ("[" ++ ty.toString) = some c ∧ ArrOfT s c ty := by
  obtain ⟨c, k, comp, h1, h2, h3⟩ := Cond.arrayClass_spec (args := args) (first := s) (o := none) (s := s) (idx := []) h
  exact ⟨c, h1, fun n z => ⟨(fun k h => by cases h), k, h2, comp, h3⟩⟩
theorem x_ovK {s : State} {args : Array Value} {n : String} (h : (Cond.arrayOver (.object n)).before args s = true) : ∃ c : ClassId, ArrOfT s c (.object n) ∧ va_RA s c (.object n) := by
  obtain ⟨comp, c, k, h1, -, h3, h4, h5⟩ := Cond.arrayOver_spec (args := args) (first := s) (o := none) (s := s) (idx := []) h
  exact ⟨c, fun n z => ⟨(fun k h => by cases h), k, h3, comp, h4⟩, k, comp, h3, h4, h1, h5⟩
theorem x_clsK {s : State} {args : Array Value} (hts : ∀ w ∈ lw_tbl, w.before args s = true) : ∃ D : va_G, ∀ (k : Nat) (q : vw_C), x_cls[k]? = some q → u_Kn s q.1 q.2.1 q.2.2 (D.1 k) (D.2 k) := by
  have h : ∀ k : Nat, ∃ p : ClassId × (Nat → Nat), ∀ q : vw_C, x_cls[k]? = some q → u_Kn s q.1 q.2.1 q.2.2 p.1 p.2 := by
    intro k
    match k with
    | 0 => obtain ⟨cC, iS, h⟩ := u_known (C := R_Asker) (T := F_Asker) (N := 6) (n := 6) hts i_Asker (hts _ x_h_ins0); exact ⟨(cC, iS), fun q hq => by cases hq; exact h⟩
    | 1 => obtain ⟨cC, iS, h⟩ := u_known (C := R_Edition) (T := F_Edition) (N := 6) (n := 6) hts i_Edition (hts _ x_h_ins1); exact ⟨(cC, iS), fun q hq => by cases hq; exact h⟩
    | 2 => obtain ⟨cC, iS, h⟩ := u_known (C := R_Explainer) (T := F_Explainer) (N := 6) (n := 6) hts i_Explainer (hts _ x_h_ins2); exact ⟨(cC, iS), fun q hq => by cases hq; exact h⟩
    | 3 => obtain ⟨cC, iS, h⟩ := u_known (C := R_Law) (T := F_Law) (N := 6) (n := 6) hts i_Law (hts _ x_h_ins3); exact ⟨(cC, iS), fun q hq => by cases hq; exact h⟩
    | 4 => obtain ⟨cC, iS, h⟩ := u_known (C := R_Maker) (T := F_Maker) (N := 8) (n := 8) hts i_Maker (hts _ x_h_ins4); exact ⟨(cC, iS), fun q hq => by cases hq; exact h⟩
    | 5 => obtain ⟨cC, iS, h⟩ := u_known (C := R_Matcher) (T := F_Matcher) (N := 6) (n := 6) hts i_Matcher (hts _ x_h_ins5); exact ⟨(cC, iS), fun q hq => by cases hq; exact h⟩
    | 6 => obtain ⟨cC, iS, h⟩ := u_known (C := R_Projector) (T := F_Projector) (N := 5) (n := 5) hts i_Projector (hts _ x_h_ins6); exact ⟨(cC, iS), fun q hq => by cases hq; exact h⟩
    | 7 => obtain ⟨cC, iS, h⟩ := u_known (C := R_Reader) (T := F_Reader) (N := 7) (n := 7) hts i_Reader (hts _ x_h_ins7); exact ⟨(cC, iS), fun q hq => by cases hq; exact h⟩
    | 8 => obtain ⟨cC, iS, h⟩ := u_known (C := R_State) (T := F_State) (N := 15) (n := 15) hts i_State (hts _ x_h_ins8); exact ⟨(cC, iS), fun q hq => by cases hq; exact h⟩
    | 9 => obtain ⟨cC, iS, h⟩ := u_known (C := R_Tape) (T := F_Tape) (N := 2) (n := 2) hts i_Tape (hts _ x_h_ins9); exact ⟨(cC, iS), fun q hq => by cases hq; exact h⟩
    | 10 => obtain ⟨cC, iS, h⟩ := u_known (C := R_Fp) (T := F_Fp) (N := 12) (n := 12) hts i_Fp (hts _ x_h_ins10); exact ⟨(cC, iS), fun q hq => by cases hq; exact h⟩
    | 11 => obtain ⟨cC, iS, h⟩ := u_known (C := R_Mod) (T := F_Mod) (N := 46) (n := 46) hts i_Mod (hts _ x_h_ins11); exact ⟨(cC, iS), fun q hq => by cases hq; exact h⟩
    | k + 12 => exact ⟨(0, fun _ => 0), fun q hq => by simp [x_cls] at hq⟩
  obtain ⟨ad, had⟩ := Classical.axiomOfChoice h
  exact ⟨(fun k => (ad k).1, fun k => (ad k).2), had⟩
theorem x_ctx {p : Program} {s : State} {m : MethodId} {meth : Method} {c : Code} {b L : Nat} {xs : Nat → Int32} (hL : L ≤ 3584) (C0 : lw_At p s m meth c b L xs) (hO : x_Open b s) : ∃ G : xG, G.X = x_X L xs ∧ G.N = s.heap.size ∧ G.ea 0 = some b ∧ xCx G 215 0 p s m #[Value.ref b] meth c := by
  obtain ⟨hx, hb, hr, hml, hown, hts, hX, hbl, hlocks, hgv⟩ := C0
  have hn : ∀ w ∈ x_nar, w.before #[Value.ref b] s = true := flat_of_before _ hgv
  have hA : ∀ a : Nat, a < s.heap.size → ¬ (fun q : Nat => s.heap.size ≤ q) a := fun a h => Nat.not_le.mpr h
  obtain ⟨D, hD⟩ := x_clsK hts
  obtain ⟨cI, i1, i2⟩ := x_arrK (hts _ x_h_ai)
  obtain ⟨cZ, z1, z2⟩ := x_arrK (hts _ x_h_az)
  obtain ⟨cJ, j1, j2⟩ := x_arrK (hts _ x_h_al)
  obtain ⟨cS, s1, s2⟩ := x_ovK (hts _ x_h_ov)
  obtain ⟨t1, a1, a2⟩ := x_arr_at (A := fun q : Nat => s.heap.size ≤ q) hn hA x_nA_low
  obtain ⟨t2, b1, b2⟩ := x_arr_at (A := fun q : Nat => s.heap.size ≤ q) hn hA x_nA_high
  obtain ⟨t3, c1, c2⟩ := x_arr_at (A := fun q : Nat => s.heap.size ≤ q) hn hA x_nA_first
  have hcs := hn _ (x_nC (.eq (.static "java/lang/String" "COMPACT_STRINGS" "Z") (.int 1)) (by simp))
  have hfm := hn _ (x_nC (.isRef (.static "jdk/internal/util/Preconditions" "SIOOBE_FORMATTER" "Ljava/util/function/BiFunction;")) (by simp))
  have hfq := va_Zqof (A := fun q : Nat => s.heap.size ≤ q) (hts _ x_h_ls_fm) (hts _ x_h_in_pre) hfm hA
  obtain ⟨fo, hfo⟩ : ∃ fo : Option Nat, va_Z "jdk/internal/util/Preconditions" "SIOOBE_FORMATTER" "Ljava/util/function/BiFunction;" (va_rf fo) (fun q : Nat => s.heap.size ≤ q) s s.heap := by
    rcases hfq with h | ⟨t, h⟩
    · exact ⟨none, h⟩
    · exact ⟨some t, h⟩
  have hst : ∀ j : Nat, ∃ q : Nat × Nat, j < 14 → (x_stm j).eval #[Value.ref b] s none [] s = some (.ref q.1) ∧ va_O "java/lang/String" q.1 (fun q : Nat => s.heap.size ≤ q) s s.heap ∧ va_OF "java/lang/String" "value" "[B" (.ref q.2) q.1 (fun q : Nat => s.heap.size ≤ q) s s.heap ∧ va_OF "java/lang/String" "coder" "B" (.int 0) q.1 (fun q : Nat => s.heap.size ≤ q) s s.heap ∧ va_T .byte q.2 (x_slen.getD j 0) (fun i => .int ((x_sbyt.getD j []).getD i 0)) (fun q : Nat => s.heap.size ≤ q) s s.heap := by
    intro j
    match j with
    | 0 => obtain ⟨q, h⟩ := x_str_at (A := fun q : Nat => s.heap.size ≤ q) hn hA x_nS0 (by decide); exact ⟨q, fun _ => h⟩
    | 1 => obtain ⟨q, h⟩ := x_str_at (A := fun q : Nat => s.heap.size ≤ q) hn hA x_nS1 (by decide); exact ⟨q, fun _ => h⟩
    | 2 => obtain ⟨q, h⟩ := x_str_at (A := fun q : Nat => s.heap.size ≤ q) hn hA x_nS2 (by decide); exact ⟨q, fun _ => h⟩
    | 3 => obtain ⟨q, h⟩ := x_str_at (A := fun q : Nat => s.heap.size ≤ q) hn hA x_nS3 (by decide); exact ⟨q, fun _ => h⟩
    | 4 => obtain ⟨q, h⟩ := x_str_at (A := fun q : Nat => s.heap.size ≤ q) hn hA x_nS4 (by decide); exact ⟨q, fun _ => h⟩
    | 5 => obtain ⟨q, h⟩ := x_str_at (A := fun q : Nat => s.heap.size ≤ q) hn hA x_nS5 (by decide); exact ⟨q, fun _ => h⟩
    | 6 => obtain ⟨q, h⟩ := x_str_at (A := fun q : Nat => s.heap.size ≤ q) hn hA x_nS6 (by decide); exact ⟨q, fun _ => h⟩
    | 7 => obtain ⟨q, h⟩ := x_str_at (A := fun q : Nat => s.heap.size ≤ q) hn hA x_nS7 (by decide); exact ⟨q, fun _ => h⟩
    | 8 => obtain ⟨q, h⟩ := x_str_at (A := fun q : Nat => s.heap.size ≤ q) hn hA x_nS8 (by decide); exact ⟨q, fun _ => h⟩
    | 9 => obtain ⟨q, h⟩ := x_str_at (A := fun q : Nat => s.heap.size ≤ q) hn hA x_nS9 (by decide); exact ⟨q, fun _ => h⟩
    | 10 => obtain ⟨q, h⟩ := x_str_at (A := fun q : Nat => s.heap.size ≤ q) hn hA x_nS10 (by decide); exact ⟨q, fun _ => h⟩
    | 11 => obtain ⟨q, h⟩ := x_str_at (A := fun q : Nat => s.heap.size ≤ q) hn hA x_nS11 (by decide); exact ⟨q, fun _ => h⟩
    | 12 => obtain ⟨q, h⟩ := x_str_at (A := fun q : Nat => s.heap.size ≤ q) hn hA x_nS12 (by decide); exact ⟨q, fun _ => h⟩
    | 13 => obtain ⟨q, h⟩ := x_str_at (A := fun q : Nat => s.heap.size ≤ q) hn hA x_nS13 (by decide); exact ⟨q, fun _ => h⟩
    | j + 14 => exact ⟨(0, 0), fun h => absurd h (by omega)⟩
  obtain ⟨ad, had⟩ := Classical.axiomOfChoice hst
  have hsr : ∀ j : Nat, j < 14 → (x_wstr j).before #[Value.ref b] s = true := by
    intro j hj
    match j, hj with
    | 0, _ => exact hts _ x_h_str0
    | 1, _ => exact hts _ x_h_str1
    | 2, _ => exact hts _ x_h_str2
    | 3, _ => exact hts _ x_h_str3
    | 4, _ => exact hts _ x_h_str4
    | 5, _ => exact hts _ x_h_str5
    | 6, _ => exact hts _ x_h_str6
    | 7, _ => exact hts _ x_h_str7
    | 8, _ => exact hts _ x_h_str8
    | 9, _ => exact hts _ x_h_str9
    | 10, _ => exact hts _ x_h_str10
    | 11, _ => exact hts _ x_h_str11
    | 12, _ => exact hts _ x_h_str12
    | 13, _ => exact hts _ x_h_str13
    | j + 14, hj => omega
  refine ⟨(D, fun k => match k with
    | 0 => cI
    | 1 => cZ
    | 2 => cJ
    | _ => cS, s.heap.size, fun j => match j with
    | 0 => some b
    | 1 => some t1
    | 2 => some t2
    | 3 => some t3
    | 4 => fo
    | j + 5 => some (ad j).2, fun j => (ad j).1, x_X L xs), rfl, rfl, rfl, hx, hb, hml, hr, hown, fun w hw => hts w (List.mem_filter.mp hw).1, hlocks, fun h => absurd h (by decide +kernel), ⟨hD, fun k q hk => ?_⟩, ⟨fun j hj => ?_, fun j hj => ?_, va_Zof (hts _ x_h_ls_low) (hts _ x_h_in_fp) a1 hA, va_Zof (hts _ x_h_ls_high) (hts _ x_h_in_fp) b1 hA, va_Zof (hts _ x_h_ls_first) (hts _ x_h_in_fp) c1 hA, va_Zof (hts _ x_h_ls_cs) (hts _ x_h_in_str) (va_eqt hcs) hA, hfo, fun j hj => ?_, ⟨va_Nw.of rfl (hts _ x_h_fln), fun q hq => ?_, va_Nw.of rfl (hts _ x_h_cst), fun h7 => absurd h7 (show ¬ (0 : Nat) = 7 by decide), fun a _ ha => ?_⟩, va_AO.of (hts _ x_h_ov)⟩, rfl⟩
  · match k, hk with
    | 0, hk => cases hk; exact ⟨i2, i1⟩
    | 1, hk => cases hk; exact ⟨z2, z1⟩
    | 2, hk => cases hk; exact ⟨j2, j1⟩
    | 3, hk => cases hk; exact ⟨s1, s2⟩
    | k + 4, hk => simp [xtys] at hk
  · match j, hj with
    | 0, _ =>
      refine ⟨b, rfl, ?_⟩
      obtain ⟨scr, q1, q2, q3, q4, q5⟩ := hX
      refine ⟨scr, q1, q2, q3, by rw [q4]; exact Nat.le_refl _, by rw [q4]; rfl, fun i hi => ?_, hA b hbl⟩
      have e : Int32.ofInt (xs i).toInt = xs i := Int32.ofInt_toInt _
      show scr.slots[i]? = some (.int (Int32.ofInt (xs i).toInt))
      rw [e]
      exact q5 i hi
    | 1, _ =>
      refine ⟨t1, rfl, ?_⟩
      have e : (fun i => Value.int (Int32.ofInt (x_low.getD i 0).toInt)) = fun i => Value.int (x_low.getD i 0) := by funext i; rw [Int32.ofInt_toInt]
      show va_T .int t1 7 (fun i => .int (Int32.ofInt (x_low.getD i 0).toInt)) _ s s.heap
      rw [e]; exact a2
    | 2, _ =>
      refine ⟨t2, rfl, ?_⟩
      have e : (fun i => Value.int (Int32.ofInt (x_high.getD i 0).toInt)) = fun i => Value.int (x_high.getD i 0) := by funext i; rw [Int32.ofInt_toInt]
      show va_T .int t2 7 (fun i => .int (Int32.ofInt (x_high.getD i 0).toInt)) _ s s.heap
      rw [e]; exact b2
    | 3, _ =>
      refine ⟨t3, rfl, ?_⟩
      have e : (fun i => Value.int (Int32.ofInt (x_first.getD i 0).toInt)) = fun i => Value.int (x_first.getD i 0) := by funext i; rw [Int32.ofInt_toInt]
      show va_T .int t3 7 (fun i => .int (Int32.ofInt (x_first.getD i 0).toInt)) _ s s.heap
      rw [e]; exact c2
    | 4, hj => cases hj
    | j + 5, hj =>
      by_cases h14 : j < 14
      · have e : (x_X L xs (j + 5)).1 = 3 := by show (if j < 14 then _ else _ : Nat × Nat × (Nat → Int)).1 = 3; rw [if_pos h14]
        have hj : (x_X L xs (j + 5)).1 = 0 := hj
        rw [e] at hj
        cases hj
      · have e : (x_X L xs (j + 5)).1 = 9 := by show (if j < 14 then _ else _ : Nat × Nat × (Nat → Int)).1 = 9; rw [if_neg h14]
        have hj : (x_X L xs (j + 5)).1 = 0 := hj
        rw [e] at hj
        cases hj
  · match j, hj with
    | 0, hj => cases hj
    | 1, hj => cases hj
    | 2, hj => cases hj
    | 3, hj => cases hj
    | 4, hj => cases hj
    | j + 5, hj =>
      by_cases h14 : j < 14
      · have e : x_X L xs (j + 5) = (3, x_slen.getD j 0, fun i => ((x_sbyt.getD j []).getD i 0).toInt) := by show (if j < 14 then _ else _ : Nat × Nat × (Nat → Int)) = _; rw [if_pos h14]
        refine ⟨(ad j).2, rfl, ?_⟩
        show va_T .byte (ad j).2 (x_X L xs (j + 5)).2.1 (fun i => .int (Int32.ofInt ((x_X L xs (j + 5)).2.2 i))) _ s s.heap
        rw [e]
        have e2 : (fun i => Value.int (Int32.ofInt ((x_sbyt.getD j []).getD i 0).toInt)) = fun i => Value.int ((x_sbyt.getD j []).getD i 0) := by funext i; rw [Int32.ofInt_toInt]
        show va_T .byte (ad j).2 (x_slen.getD j 0) (fun i => .int (Int32.ofInt ((x_sbyt.getD j []).getD i 0).toInt)) _ s s.heap
        rw [e2]
        exact (had j h14).2.2.2.2
      · have e : (x_X L xs (j + 5)).1 = 9 := by show (if j < 14 then _ else _ : Nat × Nat × (Nat → Int)).1 = 9; rw [if_neg h14]
        have hj : (x_X L xs (j + 5)).1 = 3 := hj
        rw [e] at hj
        cases hj
  · obtain ⟨g1, g2, g3, g4, g5⟩ := had j hj
    exact ⟨g2, g3, g4, vk_R.of (hsr j hj) g1⟩
  · simp only [List.mem_cons, List.not_mem_nil, or_false] at hq
    rcases hq with rfl | rfl | rfl | rfl | rfl
    · exact va_Nw.of rfl (hts _ x_h_nst0)
    · exact va_Nw.of rfl (hts _ x_h_nst1)
    · exact va_Nw.of rfl (hts _ x_h_nst2)
    · exact va_Nw.of rfl (hts _ x_h_nst3)
    · exact va_Nw.of rfl (hts _ x_h_nst4)
  · have ha : some t3 = some a := ha
    cases ha
    obtain ⟨vmd, cI', o1, o2, o3, o4⟩ := hO t3 c1
    have i1 : s.vm.findClass "[I" = some cI := i1
    cases i1.symm.trans o1
    refine ⟨vmd, ?_, o3, o4, hA _ (Array.getElem?_eq_some_iff.mp o2).1⟩
    have e : (fun i => Value.int (Int32.ofInt (x_first.getD i 0).toInt)) = fun i => Value.int (x_first.getD i 0) := by funext i; rw [Int32.ofInt_toInt]
    show s.heap[t3]? = some { cls := cI, slots := (arrV cI 7 (fun i => .int (Int32.ofInt (x_first.getD i 0).toInt))).slots, vm := vmd }
    rw [e]
    exact o2
/-- the empty heap -/
def x_h0 : xH := (fun _ => none, 0, 0)
/-- WHAT IS LEFT: on every script the abstract machine comes to the law's end with 1, within the room -/
def x_Goal : Prop := ∀ (L : Nat) (xs : Nat → Int32), L ≤ 3584 → ∃ (f d : Nat) (h' : xH), d ≤ 1000 ∧ xq (xP x_T (x_X L xs)) x_ml f d 215 0 (xent 4 [vE 0]) [] x_h0 = some (some (vI 1), h') ∧ h'.2.1 ≤ 600000 ∧ h'.2.2 ≤ 7302250
theorem x_rel0 {G : xG} {H : Heap} (hN : G.N = H.size) : xRel G x_h0 H := by
  refine ⟨fun k => ?_, fun k q hq => ?_, ?_⟩
  · simp [x_h0]
  · simp [xws, x_h0] at hq
  · show H.size = G.N + 0
    omega
theorem whole_start_open (hG : x_Goal) {p : Program} {e : Env} {s : State} {m : MethodId} {below : List Frame} {meth : Method} {c : Code} (l : Launch) {b L : Nat} {xs : Nat → Int32} (hL : L ≤ 3584) (C0 : lw_At p s m meth c b L xs) (hO : x_Open b s) : W p l e room_1 s m #[Value.ref b] below meth c s.heap [] 0 0 (lw_Z below #[Value.ref b] s) (entryFrame m ([Value.ref b] : List Value).toArray 4) := by
  obtain ⟨G, g1, g2, g3, C⟩ := x_ctx hL C0 hO
  obtain ⟨f, d, h', hd, hq, hn, hz⟩ := hG L xs hL
  rw [← g1] at hq
  have hW := xmain x_T_snd x_T_gr G l f d 215 0 (xent 4 [vE 0]) [] x_h0 (some (vI 1)) h' hq p e room_1 s m #[Value.ref b] below meth c (lw_Z below #[Value.ref b] s) 0 0 C (by show d + 1 ≤ 2048; omega) (by show 64 * d + 64 ≤ 84000; omega) (by show h'.2.1 ≤ 600000 + 0; omega) (by show h'.2.2 ≤ 7302250 + 0; omega) ?_
  · have e1 : ([Value.ref b] : List Value) = [vE 0].map (xc G) := by
      show [Value.ref b] = [va_rf (G.ea 0)]
      rw [g3]
      rfl
    rw [lg_entry_eq]
    have h1 := hW s.heap [] _ 0 0 (x_rel0 g2) (xLR_entry (by decide)) va_S.rf rfl rfl
    rw [← e1] at h1
    exact h1
  · intro pc1 L1 S1 F hF hr H1 locs1 ls1 cells1 slots1 hR1 hL1 hS1 a1 a2
    obtain ⟨-, -, hC⟩ := x_T_snd 215 pc1 F hF
    rcases hC G.X L1 S1 h' (some (vI 1)) hr with ⟨x, ty, r1, rfl, b1, b2, b3⟩ | ⟨x, r1, rfl, b1, b2⟩ | ⟨r1, rfl, b1, b2⟩
    · cases r1
      refine va_forget (fun q hq => by have := hS1.2.2 q hq; rw [← g2]; exact this) ?_
      refine W.widen (k := 600000) (n := 7302250) (by omega) (by omega) ?_
      exact lw_ret C.1 C.2.1 C.2.2.2.1 C.2.2.2.2.2.2.1 b1
    · cases r1
    · cases r1
