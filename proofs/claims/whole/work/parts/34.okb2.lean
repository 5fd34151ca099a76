/-! WHEN A MICRO-OP IS RIGHT at a place of a method, and then it is sound there -/
def okf4 (mi pc a : Nat) (I : Nat → Instr) (J : Fin 4 → Instr) (n : Nat) : Bool := (n == 2 && okd mi pc (I a) 2) || (n == 1 && (if h : a < 4 then okd mi pc (J ⟨a, h⟩) 1 else false))
theorem okf4_of {mi pc a n : Nat} {I : Nat → Instr} {J : Fin 4 → Instr} (h : okf4 mi pc a I J n = true) : (n = 2 ∧ decode (x_cc mi) pc = .ok (I a, 2)) ∨ ∃ k : Fin 4, k.val = a ∧ n = 1 ∧ decode (x_cc mi) pc = .ok (J k, 1) := by
  unfold okf4 at h
  rw [Bool.or_eq_true] at h
  rcases h with h | h
  · rw [Bool.and_eq_true] at h
    exact Or.inl ⟨by simpa using h.1, of_decide_eq_true h.2⟩
  · rw [Bool.and_eq_true] at h
    obtain ⟨h1, h2⟩ := h
    split at h2
    · rename_i hk
      exact Or.inr ⟨⟨a, hk⟩, rfl, by simpa using h1, of_decide_eq_true h2⟩
    · cases h2
def ok_ic (mi pc a : Nat) (b : Int) (c n : Nat) : Bool := match c with
  | 0 => n == 1 && okd mi pc (.iconst b) 1
  | 1 => n == 2 && (okd mi pc (.bipush b) 2 && decide ((Int8.ofInt b).toInt32 = Int32.ofInt b))
  | 2 => n == 3 && (okd mi pc (.sipush b) 3 && decide ((Int16.ofInt b).toInt32 = Int32.ofInt b))
  | 3 => n == 2 && (okd mi pc (.ldc a) 2 && x_lcl.any (fun t => t.1 == x_ow mi && (t.2.1 == a && t.2.2.1 == b)))
  | 4 => n == 3 && (okd mi pc (.ldc_w a) 3 && x_lcl.any (fun t => t.1 == x_ow mi && (t.2.1 == a && t.2.2.1 == b)))
  | _ => false
theorem x_lcl_of {o a : Nat} {b : Int} (h : x_lcl.any (fun t => t.1 == o && (t.2.1 == a && t.2.2.1 == b)) = true) : Cond.constant (x_on o) a (Int32.ofInt b) ∈ x_tbl := by
  obtain ⟨t, h1, h2⟩ := List.any_eq_true.mp h
  simp only [Bool.and_eq_true, beq_iff_eq] at h2
  obtain ⟨rfl, rfl, rfl⟩ := h2
  exact x_at_in (List.all_eq_true.mp x_lcl_ok t h1)
theorem x_lll_of {o a : Nat} {b : Int} (h : x_lll.any (fun t => t.1 == o && (t.2.1 == a && t.2.2.1 == b)) = true) : Cond.constantLong (x_on o) a (Int64.ofInt b) ∈ x_tbl := by
  obtain ⟨t, h1, h2⟩ := List.any_eq_true.mp h
  simp only [Bool.and_eq_true, beq_iff_eq] at h2
  obtain ⟨rfl, rfl, rfl⟩ := h2
  exact x_at_in (List.all_eq_true.mp x_lll_ok t h1)
theorem ok_ic_snd {mi pc a c n : Nat} {b : Int} (h : ok_ic mi pc a b c n = true) : xSnd mi pc (fun _ => x_ic b n) := by
  unfold ok_ic at h
  split at h
  · simp only [Bool.and_eq_true, beq_iff_eq, okd, decide_eq_true_eq] at h
    obtain ⟨rfl, h⟩ := h
    exact snd_iconst h
  · simp only [Bool.and_eq_true, beq_iff_eq, okd, decide_eq_true_eq] at h
    obtain ⟨rfl, h, h2⟩ := h
    exact snd_bipush h h2
  · simp only [Bool.and_eq_true, beq_iff_eq, okd, decide_eq_true_eq] at h
    obtain ⟨rfl, h, h2⟩ := h
    exact snd_sipush h h2
  · rw [Bool.and_eq_true, Bool.and_eq_true] at h
    obtain ⟨h1, h, h2⟩ := h
    have h1 : n = 2 := by simpa using h1
    subst h1
    exact snd_ldc (of_decide_eq_true h) (x_lcl_of h2)
  · rw [Bool.and_eq_true, Bool.and_eq_true] at h
    obtain ⟨h1, h, h2⟩ := h
    have h1 : n = 3 := by simpa using h1
    subst h1
    exact snd_ldcw (of_decide_eq_true h) (x_lcl_of h2)
  · cases h
def ok_lc (mi pc a : Nat) (b : Int) (c n : Nat) : Bool := match c with
  | 0 => n == 1 && ((b == 0 && okd mi pc (.lconst 0) 1) || (b == 1 && okd mi pc (.lconst 1) 1))
  | 1 => n == 3 && (okd mi pc (.ldc2_w a) 3 && x_lll.any (fun t => t.1 == x_ow mi && (t.2.1 == a && t.2.2.1 == b)))
  | _ => false
theorem ok_lc_snd {mi pc a c n : Nat} {b : Int} (h : ok_lc mi pc a b c n = true) : xSnd mi pc (fun _ => x_lc b n) := by
  unfold ok_lc at h
  split at h
  · rw [Bool.and_eq_true, Bool.or_eq_true, Bool.and_eq_true, Bool.and_eq_true] at h
    obtain ⟨h1, h⟩ := h
    have h1 : n = 1 := by simpa using h1
    subst h1
    rcases h with ⟨h2, h⟩ | ⟨h2, h⟩
    · have h2 : b = 0 := by simpa using h2
      subst h2
      exact snd_lconst0 (of_decide_eq_true h)
    · have h2 : b = 1 := by simpa using h2
      subst h2
      exact snd_lconst1 (of_decide_eq_true h)
  · rw [Bool.and_eq_true, Bool.and_eq_true] at h
    obtain ⟨h1, h, h2⟩ := h
    have h1 : n = 3 := by simpa using h1
    subst h1
    exact snd_ldc2 (of_decide_eq_true h) (x_lll_of h2)
  · cases h
def ok_if (mi pc a t : Nat) : Bool := match a with
  | 0 => okd mi pc (.ifCond .eq ((t : Int) - (pc : Int))) 3
  | 1 => okd mi pc (.ifCond .ne ((t : Int) - (pc : Int))) 3
  | 2 => okd mi pc (.ifCond .lt ((t : Int) - (pc : Int))) 3
  | 3 => okd mi pc (.ifCond .ge ((t : Int) - (pc : Int))) 3
  | 4 => okd mi pc (.ifCond .gt ((t : Int) - (pc : Int))) 3
  | 5 => okd mi pc (.ifCond .le ((t : Int) - (pc : Int))) 3
  | _ => false
theorem ok_if_snd {mi pc a t : Nat} (h : ok_if mi pc a t = true) : xSnd mi pc (fun _ => x_if a t) := by
  unfold ok_if at h
  split at h
  · exact snd_if_eq (of_decide_eq_true h)
  · exact snd_if_ne (of_decide_eq_true h)
  · exact snd_if_lt (of_decide_eq_true h)
  · exact snd_if_ge (of_decide_eq_true h)
  · exact snd_if_gt (of_decide_eq_true h)
  · exact snd_if_le (of_decide_eq_true h)
  · cases h
def ok_cmp (mi pc a t : Nat) : Bool := match a with
  | 0 => okd mi pc (.if_icmp .eq ((t : Int) - (pc : Int))) 3
  | 1 => okd mi pc (.if_icmp .ne ((t : Int) - (pc : Int))) 3
  | 2 => okd mi pc (.if_icmp .lt ((t : Int) - (pc : Int))) 3
  | 3 => okd mi pc (.if_icmp .ge ((t : Int) - (pc : Int))) 3
  | 4 => okd mi pc (.if_icmp .gt ((t : Int) - (pc : Int))) 3
  | 5 => okd mi pc (.if_icmp .le ((t : Int) - (pc : Int))) 3
  | _ => false
theorem ok_cmp_snd {mi pc a t : Nat} (h : ok_cmp mi pc a t = true) : xSnd mi pc (fun _ => x_cmp a t) := by
  unfold ok_cmp at h
  split at h
  · exact snd_cmp_eq (of_decide_eq_true h)
  · exact snd_cmp_ne (of_decide_eq_true h)
  · exact snd_cmp_lt (of_decide_eq_true h)
  · exact snd_cmp_ge (of_decide_eq_true h)
  · exact snd_cmp_gt (of_decide_eq_true h)
  · exact snd_cmp_le (of_decide_eq_true h)
  · cases h
theorem x_lfl_of {o a ci k : Nat} (h : x_lfl.any (fun t => t.1 == o && (t.2.1 == a && (t.2.2.1 == ci && t.2.2.2.1 == k))) = true) : ∃ q, x_cls[ci]? = some q ∧ k < q.2.2 ∧ Cond.fieldLink (x_on o) a (q.2.1 k).1 (q.2.1 k).2.1 (q.2.1 k).2.2.1 ∈ x_tbl := by
  obtain ⟨t, h1, h2⟩ := List.any_eq_true.mp h
  simp only [Bool.and_eq_true, beq_iff_eq] at h2
  obtain ⟨rfl, rfl, rfl, rfl⟩ := h2
  have h3 := List.all_eq_true.mp x_lfl_ok t h1
  unfold x_flok at h3
  split at h3
  · rename_i q hq
    rw [Bool.and_eq_true] at h3
    exact ⟨q, hq, of_decide_eq_true h3.1, x_at_in h3.2⟩
  · cases h3
def ok_getf (mi pc a k c : Nat) : Bool := okd mi pc (.getfield c) 3 && x_lfl.any (fun t => t.1 == x_ow mi && (t.2.1 == c && (t.2.2.1 == a && t.2.2.2.1 == k)))
theorem ok_getf_snd {mi pc a k c : Nat} (h : ok_getf mi pc a k c = true) : xSnd mi pc (fun _ => x_getf a k) := by
  unfold ok_getf at h
  rw [Bool.and_eq_true] at h
  obtain ⟨q, h1, h2, h3⟩ := x_lfl_of h.2
  exact snd_getf (of_decide_eq_true h.1) h1 h2 h3
def ok_putf (mi pc a k c : Nat) : Bool := okd mi pc (.putfield (c / 8)) 3 && (x_lfl.any (fun t => t.1 == x_ow mi && (t.2.1 == c / 8 && (t.2.2.1 == a && t.2.2.2.1 == k))) && match x_cls[a]? with
  | some q => (match parseFieldDescriptor (q.2.1 k).2.2.1 with
    | some ty => xtyk (c % 8) ty
    | none => false) && ((q.2.1 k).2.2.2 == false || ((q.2.1 k).2.2.2 == true && ((x_nm mi).name == "<init>" && (q.2.1 k).1 == x_on (x_ow mi))))
  | none => false)
theorem ok_putf_snd {mi pc a k c : Nat} (h : ok_putf mi pc a k c = true) : xSnd mi pc (fun _ => x_putf a k (c % 8)) := by
  unfold ok_putf at h
  rw [Bool.and_eq_true, Bool.and_eq_true] at h
  obtain ⟨h0, h1, h2⟩ := h
  obtain ⟨q, g1, g2, g3⟩ := x_lfl_of h1
  rw [g1] at h2
  dsimp only at h2
  rw [Bool.and_eq_true] at h2
  obtain ⟨h2, h3⟩ := h2
  split at h2
  · rename_i ty hty
    refine snd_putf (of_decide_eq_true h0) g1 g2 g3 hty h2 ?_
    rw [Bool.or_eq_true] at h3
    rcases h3 with h3 | h3
    · exact Or.inl (by simpa using h3)
    · rw [Bool.and_eq_true, Bool.and_eq_true] at h3
      exact Or.inr ⟨by simpa using h3.1, by simpa using h3.2.1, by simpa using h3.2.2⟩
  · cases h2
def ok_stat (mi pc a c : Nat) : Bool := okd mi pc (.getstatic c) 3 && ((a == 2 && (c == 21 && x_on (x_ow mi) == "FilmPrinter$State")) || (decide (a ≠ 2 ∧ a < 5) && x_lgl.any (fun t => t.1 == x_ow mi && (t.2.1 == c && t.2.2.1 == a))))
theorem x_lgl_of {o a c : Nat} (h : x_lgl.any (fun t => t.1 == o && (t.2.1 == c && t.2.2.1 == a)) = true) : Cond.fieldLink (x_on o) c (x_gln a).1 (x_gln a).2.1 (x_gln a).2.2 ∈ x_tbl := by
  obtain ⟨t, h1, h2⟩ := List.any_eq_true.mp h
  simp only [Bool.and_eq_true, beq_iff_eq] at h2
  obtain ⟨rfl, rfl, rfl⟩ := h2
  exact x_at_in (List.all_eq_true.mp x_lgl_ok t h1)
theorem ok_stat_snd {mi pc a c : Nat} (h : ok_stat mi pc a c = true) : xSnd mi pc (fun _ => x_ref (x_stv a) 3) := by
  unfold ok_stat at h
  rw [Bool.and_eq_true, Bool.or_eq_true, Bool.and_eq_true, Bool.and_eq_true, Bool.and_eq_true] at h
  obtain ⟨h0, h⟩ := h
  have h0 := of_decide_eq_true h0
  rcases h with ⟨h1, h2, h3⟩ | ⟨h1, h2⟩
  · have h1 : a = 2 := by simpa using h1
    have h2 : c = 21 := by simpa using h2
    subst h1; subst h2
    exact snd_stat2 h0 (by simpa using h3)
  · have h1 := of_decide_eq_true h1
    have h3 : a = 0 ∨ a = 1 ∨ a = 3 ∨ a = 4 := by omega
    rcases h3 with rfl | rfl | rfl | rfl
    · exact snd_stat0 h0 (x_lgl_of (a := 0) h2)
    · exact snd_stat1 h0 (x_lgl_of (a := 1) h2)
    · exact snd_stat3 h0 (x_lgl_of (a := 3) h2)
    · exact snd_stat4 h0 (x_lgl_of (a := 4) h2)
def ok_ald (mi pc a : Nat) : Bool := match a with
  | 0 => okd mi pc .iaload 1
  | 1 => okd mi pc .baload 1
  | 2 => okd mi pc .laload 1
  | 4 => okd mi pc .aaload 1
  | _ => false
theorem ok_ald_snd {mi pc a : Nat} (h : ok_ald mi pc a = true) : xSnd mi pc (fun X => x_ald a X) := by
  unfold ok_ald at h
  split at h
  · exact snd_iald (of_decide_eq_true h)
  · exact snd_bald (of_decide_eq_true h)
  · exact snd_lald (of_decide_eq_true h)
  · exact snd_aald (of_decide_eq_true h)
  · cases h
def ok_ast (mi pc a : Nat) : Bool := match a with
  | 0 => okd mi pc .iastore 1
  | 1 => okd mi pc .bastore 1
  | 2 => okd mi pc .lastore 1
  | 4 => okd mi pc .aastore 1
  | _ => false
theorem ok_ast_snd {mi pc a : Nat} (h : ok_ast mi pc a = true) : xSnd mi pc (fun _ => x_ast a) := by
  unfold ok_ast at h
  split at h
  · exact snd_iast (of_decide_eq_true h)
  · exact snd_bast (of_decide_eq_true h)
  · exact snd_last (of_decide_eq_true h)
  · exact snd_aast (of_decide_eq_true h)
  · cases h
def ok_newa (mi pc a : Nat) : Bool := match a with
  | 0 => okd mi pc (.newarray .int) 2
  | 1 => okd mi pc (.newarray .boolean) 2
  | 2 => okd mi pc (.newarray .long) 2
  | _ => false
theorem ok_newa_snd {mi pc a : Nat} (h : ok_newa mi pc a = true) : xSnd mi pc (fun _ => x_newa a) := by
  unfold ok_newa at h
  split at h
  · exact snd_newa_i (of_decide_eq_true h) x_w_ai
  · exact snd_newa_z (of_decide_eq_true h) x_w_az
  · exact snd_newa_l (of_decide_eq_true h) x_w_al
  · cases h
def ok_new (mi pc a c : Nat) : Bool := okd mi pc (.new c) 3 && x_lnw.any (fun t => t.1 == x_ow mi && (t.2.1 == c && t.2.2.1 == a))
theorem ok_new_snd {mi pc a c : Nat} (h : ok_new mi pc a c = true) : xSnd mi pc (fun _ => x_new a (x_dft a)) := by
  unfold ok_new at h
  rw [Bool.and_eq_true] at h
  obtain ⟨t, h1, h2⟩ := List.any_eq_true.mp h.2
  simp only [Bool.and_eq_true, beq_iff_eq] at h2
  obtain ⟨h2, rfl, rfl⟩ := h2
  have h3 := List.all_eq_true.mp x_lnw_ok t h1
  unfold x_nwok at h3
  split at h3
  · rename_i q hq
    rw [Bool.and_eq_true, Bool.and_eq_true, Bool.and_eq_true, Bool.and_eq_true] at h3
    obtain ⟨g1, g2, g3, g4, g5⟩ := h3
    rw [h2] at g3
    refine snd_new (ty := fun k => (parseFieldDescriptor (q.2.1 k).2.2.1).getD .int) (of_decide_eq_true h.1) hq (fun k hk => ?_) (of_decide_eq_true g1) (fun k hk => ?_) (x_at_in g3) (x_at_in g4) (x_at_in g5)
    · have := List.all_eq_true.mp g2 k (List.mem_range.mpr hk)
      split at this
      · rename_i ty hty
        rw [hty]; rfl
      · cases this
    · have := List.all_eq_true.mp g2 k (List.mem_range.mpr hk)
      split at this
      · rename_i ty hty
        rw [hty]
        rw [Bool.and_eq_true] at this
        exact ⟨this.1, of_decide_eq_true this.2⟩
      · cases this
  · cases h3
def ok_call (mi pc a k c : Nat) : Bool := x_lmk.any (fun t => t.1 == x_ow mi && (t.2.1 == c && (t.2.2.1 == a && t.2.2.2.1 == k))) && match k with
  | 0 => okd mi pc (.invokestatic c) 3
  | 1 => okd mi pc (.invokestatic c) 3
  | 2 => okd mi pc (.invokevirtual c) 3
  | 3 => okd mi pc (.invokespecial c) 3
  | 4 => okd mi pc (.invokevirtual c) 3
  | _ => false
theorem ok_call_snd {mi pc a k c : Nat} (h : ok_call mi pc a k c = true) : xSnd mi pc (fun _ => x_call a (x_na a) (xrk k (x_ow a))) := by
  unfold ok_call at h
  rw [Bool.and_eq_true] at h
  obtain ⟨h0, h⟩ := h
  obtain ⟨t, h1, h2⟩ := List.any_eq_true.mp h0
  simp only [Bool.and_eq_true, beq_iff_eq] at h2
  obtain ⟨h2, rfl, rfl, rfl⟩ := h2
  have h3 := List.all_eq_true.mp x_lmk_ok t h1
  unfold x_mkok at h3
  rw [Bool.and_eq_true, h2] at h3
  obtain ⟨h3, h4⟩ := h3
  have h3 := of_decide_eq_true h3
  split at h4
  · rename_i hk
    rw [hk] at h ⊢
    rw [Bool.and_eq_true, Bool.and_eq_true] at h4
    exact snd_callS (of_decide_eq_true h) h3 (of_decide_eq_true h4.1) (x_at_in h4.2.1) (x_at_in h4.2.2)
  · rename_i hk
    rw [hk] at h ⊢
    rw [Bool.and_eq_true, Bool.and_eq_true, Bool.and_eq_true] at h4
    exact snd_callN (of_decide_eq_true h) h3 (of_decide_eq_true h4.1) rfl (of_decide_eq_true h4.2.1) (of_decide_eq_true h4.2.2.1) (x_at_in h4.2.2.2)
  · rename_i hk
    rw [hk] at h ⊢
    rw [Bool.and_eq_true] at h4
    obtain ⟨g0, h4⟩ := h4
    split at h4
    · rename_i q hq
      rw [Bool.and_eq_true, Bool.and_eq_true, Bool.and_eq_true] at h4
      exact snd_callV (of_decide_eq_true h) h3 hq (of_decide_eq_true h4.1) (of_decide_eq_true g0) (x_at_in h4.2.1) (x_at_in h4.2.2.1) (x_at_in h4.2.2.2)
    · cases h4
  · rename_i hk
    rw [hk] at h ⊢
    rw [Bool.and_eq_true, Bool.and_eq_true, Bool.and_eq_true, Bool.and_eq_true] at h4
    exact snd_callI (of_decide_eq_true h) h3 (of_decide_eq_true h4.1) (of_decide_eq_true h4.2.1) (of_decide_eq_true h4.2.2.1) (x_at_in h4.2.2.2.1) (x_at_in h4.2.2.2.2)
  · rename_i hk
    rw [hk] at h ⊢
    rw [Bool.and_eq_true, Bool.and_eq_true, Bool.and_eq_true, Bool.and_eq_true] at h4
    exact snd_callT (of_decide_eq_true h) h3 (of_decide_eq_true h4.2.1) (of_decide_eq_true h4.1) (x_at_in h4.2.2.1) (x_at_in h4.2.2.2.1) (x_at_in h4.2.2.2.2)
  · cases h4
def ok_ret (mi pc a : Nat) : Bool := match a with
  | 4 => okd mi pc .return_ 1 && decide (x_rt mi = none)
  | 2 => okd mi pc .lreturn 1 && decide (x_rt mi = some .long)
  | a => okd mi pc .ireturn 1 && match x_rt mi with
    | some t => xtyk a t
    | none => false
theorem ok_ret_snd {mi pc a : Nat} (h : ok_ret mi pc a = true) : xSnd mi pc (fun _ => x_ret a) := by
  unfold ok_ret at h
  split at h
  · rw [Bool.and_eq_true] at h
    exact snd_ret (fun _ => ⟨of_decide_eq_true h.1, of_decide_eq_true h.2⟩) (fun z => by omega) (fun z => absurd rfl z)
  · rw [Bool.and_eq_true] at h
    exact snd_ret (fun z => by omega) (fun _ => ⟨of_decide_eq_true h.1, of_decide_eq_true h.2⟩) (fun _ z => absurd rfl z)
  · rename_i n4 n2
    rw [Bool.and_eq_true] at h
    refine snd_ret (fun z => absurd z n4) (fun z => absurd z n2) (fun _ _ => ⟨of_decide_eq_true h.1, ?_⟩)
    have h2 := h.2
    split at h2
    · rename_i t ht
      exact ⟨t, ht, h2⟩
    · cases h2
def ok_sw (mi pc a n : Nat) : Bool := okd mi pc (.tableswitch (((x_swt a).2.2 : Int) - (pc : Int)) (x_swt a).1 ((x_swt a).1 + (x_swt a).2.1.length - 1) ((x_swt a).2.1.map (fun t : Nat => (t : Int) - (pc : Int))).toArray) n
def ok_lsw (mi pc a n : Nat) : Bool := okd mi pc (.lookupswitch (((x_lst a).2 : Int) - (pc : Int)) ((x_lst a).1.map (fun q => (q.1, (q.2 : Int) - (pc : Int)))).toArray) n && ((((x_lst a).1.map (fun q => (q.1, (q.2 : Int) - (pc : Int)))).zip (((x_lst a).1.map (fun q => (q.1, (q.2 : Int) - (pc : Int)))).drop 1)).all (fun (a, next) => a.1 < next.1))
def ok_math (mi pc k c : Nat) : Bool := okd mi pc (.invokestatic c) 3 && x_lma.any (fun t => t.1 == x_ow mi && (t.2.1 == c && t.2.2.1 == k))
theorem ok_math_of {mi pc k c : Nat} (h : ok_math mi pc k c = true) : decode (x_cc mi) pc = .ok (.invokestatic c, 3) ∧ Cond.methodLink (x_on (x_ow mi)) c (x_man k) ∈ x_tbl := by
  unfold ok_math at h
  rw [Bool.and_eq_true] at h
  obtain ⟨t, h1, h2⟩ := List.any_eq_true.mp h.2
  simp only [Bool.and_eq_true, beq_iff_eq] at h2
  obtain ⟨h2, rfl, rfl⟩ := h2
  have h3 := x_at_in (List.all_eq_true.mp x_lma_ok t h1)
  rw [h2] at h3
  exact ⟨of_decide_eq_true h.1, h3⟩
def ok_oin (mi pc c : Nat) : Bool := okd mi pc (.invokespecial c) 3 && x_lol.any (fun t => t.1 == x_ow mi && t.2.1 == c)
theorem ok_oin_snd {mi pc c : Nat} (h : ok_oin mi pc c = true) : xSnd mi pc (fun _ => x_oin) := by
  unfold ok_oin at h
  rw [Bool.and_eq_true] at h
  obtain ⟨t, h1, h2⟩ := List.any_eq_true.mp h.2
  simp only [Bool.and_eq_true, beq_iff_eq] at h2
  obtain ⟨h2, rfl⟩ := h2
  have h3 := x_at_in (List.all_eq_true.mp x_lol_ok t h1)
  rw [h2] at h3
  exact snd_oin (of_decide_eq_true h.1) h3 x_w_oii x_w_oic
def ok_copy (mi pc c : Nat) : Bool := okd mi pc (.invokestatic c) 3 && x_lcp.any (fun t => t.1 == x_ow mi && t.2.1 == c)
theorem ok_copy_snd {mi pc c : Nat} (h : ok_copy mi pc c = true) : xSnd mi pc (fun _ => x_copy) := by
  unfold ok_copy at h
  rw [Bool.and_eq_true] at h
  obtain ⟨t, h1, h2⟩ := List.any_eq_true.mp h.2
  simp only [Bool.and_eq_true, beq_iff_eq] at h2
  obtain ⟨h2, rfl⟩ := h2
  have h3 := x_at_in (List.all_eq_true.mp x_lcp_ok t h1)
  rw [h2] at h3
  exact snd_copy (of_decide_eq_true h.1) h3 x_w_acn x_w_acs x_w_sys
def ok_gets (mi pc a c : Nat) : Bool := okd mi pc (.getfield c) 3 && (a < 2 && x_lsf.any (fun t => t.1 == x_ow mi && (t.2.1 == c && t.2.2.1 == a)))
theorem ok_gets_snd {mi pc a c : Nat} (h : ok_gets mi pc a c = true) : xSnd mi pc (fun _ => x_gets a) := by
  unfold ok_gets at h
  rw [Bool.and_eq_true, Bool.and_eq_true] at h
  obtain ⟨h0, ha, h⟩ := h
  have ha := of_decide_eq_true ha
  obtain ⟨t, h1, h2⟩ := List.any_eq_true.mp h
  simp only [Bool.and_eq_true, beq_iff_eq] at h2
  obtain ⟨h2, rfl, h4⟩ := h2
  have h3 := x_at_in (List.all_eq_true.mp x_lsf_ok t h1)
  rw [h2, h4] at h3
  match a, ha, h3 with
  | 0, _, h3 => exact snd_gets0 (of_decide_eq_true h0) h3
  | 1, _, h3 => exact snd_gets1 (of_decide_eq_true h0) h3
def okb (mi pc : Nat) (q : xI) : Bool := match q with
  | (0, a, b, c, n) => ok_ic mi pc a b c n
  | (1, a, b, c, n) => ok_lc mi pc a b c n
  | (2, a, b, c, n) => okf4 mi pc a .iload .iload_n n
  | (3, a, b, c, n) => okf4 mi pc a .lload .lload_n n
  | (4, a, b, c, n) => okf4 mi pc a .aload .aload_n n
  | (5, a, b, c, n) => okf4 mi pc a .istore .istore_n n
  | (6, a, b, c, n) => okf4 mi pc a .lstore .lstore_n n
  | (7, a, b, c, n) => okf4 mi pc a .astore .astore_n n
  | (8, a, b, c, n) => n == 3 && okd mi pc (.iinc a b) 3
  | (9, a, b, c, n) => okd mi pc .iadd 1
  | (10, a, b, c, n) => okd mi pc .idiv 1
  | (11, a, b, c, n) => okd mi pc .irem 1
  | (12, a, b, c, n) => okd mi pc .ineg 1
  | (13, a, b, c, n) => okd mi pc .ladd 1
  | (14, a, b, c, n) => okd mi pc .ldiv 1
  | (15, a, b, c, n) => okd mi pc .i2l 1
  | (16, a, b, c, n) => okd mi pc .l2i 1
  | (17, a, b, c, n) => okd mi pc .lcmp 1
  | (18, a, b, c, n) => okd mi pc .i2c 1
  | (19, a, b, c, n) => okd mi pc .dup 1
  | (20, a, b, c, n) => okd mi pc .dup2 1
  | (21, a, b, c, n) => okd mi pc .pop 1
  | (22, a, b, c, n) => ok_if mi pc a c
  | (23, a, b, c, n) => ok_cmp mi pc a c
  | (24, a, b, c, n) => okd mi pc (.goto ((c : Int) - (pc : Int))) 3
  | (25, a, b, c, n) => okd mi pc (.ifnonnull ((c : Int) - (pc : Int))) 3
  | (26, a, b, c, n) => ok_getf mi pc a b.toNat c
  | (27, a, b, c, n) => ok_putf mi pc a b.toNat c
  | (28, a, b, c, n) => ok_stat mi pc a c
  | (29, a, b, c, n) => ok_ald mi pc a
  | (30, a, b, c, n) => ok_ast mi pc a
  | (31, a, b, c, n) => okd mi pc .arraylength 1
  | (32, a, b, c, n) => ok_newa mi pc a
  | (33, a, b, c, n) => okd mi pc (.anewarray c) 3 && (x_ow mi == x_lan.1 && c == x_lan.2.1)
  | (34, a, b, c, n) => ok_new mi pc a c
  | (35, a, b, c, n) => ok_call mi pc a b.toNat c
  | (36, a, b, c, n) => ok_ret mi pc a
  | (37, a, b, c, n) => ok_sw mi pc a n
  | (38, a, b, c, n) => ok_lsw mi pc a n
  | (39, a, b, c, n) => ok_copy mi pc c
  | (40, a, b, c, n) => okd mi pc (.invokevirtual c) 3 && (x_ow mi == x_lcn.1 && c == x_lcn.2.1)
  | (41, a, b, c, n) => okd mi pc (.checkcast c) 3 && (x_ow mi == x_lck.1 && c == x_lck.2.1)
  | (42, a, b, c, n) => okd mi pc (.ldc (x_sidx a)) 2 && (a < 14 && x_on (x_ow mi) == "FilmPrinter$Reader")
  | (43, a, b, c, n) => ok_oin mi pc c
  | (44, a, b, c, n) => ok_gets mi pc a c
  | (45, a, b, c, n) => ok_math mi pc 0 c
  | (46, a, b, c, n) => ok_math mi pc 1 c
  | (47, a, b, c, n) => ok_math mi pc 2 c
  | (50, a, b, c, n) => okd mi pc .isub 1
  | (51, a, b, c, n) => okd mi pc .imul 1
  | (52, a, b, c, n) => okd mi pc .iand 1
  | (53, a, b, c, n) => okd mi pc .ior 1
  | (54, a, b, c, n) => okd mi pc .ishl 1
  | (55, a, b, c, n) => okd mi pc .ishr 1
  | (56, a, b, c, n) => okd mi pc .iushr 1
  | (57, a, b, c, n) => okd mi pc .lsub 1
  | (58, a, b, c, n) => okd mi pc .lmul 1
  | _ => false
theorem okb_snd {mi pc : Nat} {q : xI} (h : okb mi pc q = true) : xSnd mi pc (xop q) := by
  obtain ⟨t, a, b, c, n⟩ := q
  match t, h with
  | 0, h => exact ok_ic_snd h
  | 1, h => exact ok_lc_snd h
  | 2, h =>
    rcases okf4_of h with ⟨rfl, h'⟩ | ⟨k, rfl, rfl, h'⟩
    · exact snd_iload h'
    · exact snd_iload_n h'
  | 3, h =>
    rcases okf4_of h with ⟨rfl, h'⟩ | ⟨k, rfl, rfl, h'⟩
    · exact snd_lload h'
    · exact snd_lload_n h'
  | 4, h =>
    rcases okf4_of h with ⟨rfl, h'⟩ | ⟨k, rfl, rfl, h'⟩
    · exact snd_aload h'
    · exact snd_aload_n h'
  | 5, h =>
    rcases okf4_of h with ⟨rfl, h'⟩ | ⟨k, rfl, rfl, h'⟩
    · exact snd_istore h'
    · exact snd_istore_n h'
  | 6, h =>
    rcases okf4_of h with ⟨rfl, h'⟩ | ⟨k, rfl, rfl, h'⟩
    · exact snd_lstore h'
    · exact snd_lstore_n h'
  | 7, h =>
    rcases okf4_of h with ⟨rfl, h'⟩ | ⟨k, rfl, rfl, h'⟩
    · exact snd_astore h'
    · exact snd_astore_n h'
  | 8, h =>
    have h : (n == 3 && okd mi pc (.iinc a b) 3) = true := h
    rw [Bool.and_eq_true] at h
    have e : n = 3 := by simpa using h.1
    subst e
    exact snd_inc (of_decide_eq_true h.2)
  | 9, h => exact snd_iadd (of_decide_eq_true h)
  | 10, h => exact snd_idiv (of_decide_eq_true h)
  | 11, h => exact snd_irem (of_decide_eq_true h)
  | 12, h => exact snd_ineg (of_decide_eq_true h)
  | 13, h => exact snd_ladd (of_decide_eq_true h)
  | 14, h => exact snd_ldiv (of_decide_eq_true h)
  | 15, h => exact snd_i2l (of_decide_eq_true h)
  | 16, h => exact snd_l2i (of_decide_eq_true h)
  | 17, h => exact snd_lcmp (of_decide_eq_true h)
  | 18, h => exact snd_i2c (of_decide_eq_true h)
  | 19, h => exact snd_dup (of_decide_eq_true h)
  | 20, h => exact snd_dup2 (of_decide_eq_true h)
  | 21, h => exact snd_pop (of_decide_eq_true h)
  | 22, h => exact ok_if_snd h
  | 23, h => exact ok_cmp_snd h
  | 24, h => exact snd_goto (of_decide_eq_true h)
  | 25, h => exact snd_nnul (of_decide_eq_true h)
  | 26, h => exact ok_getf_snd h
  | 27, h => exact ok_putf_snd h
  | 28, h => exact ok_stat_snd h
  | 29, h => exact ok_ald_snd h
  | 30, h => exact ok_ast_snd h
  | 31, h => exact snd_alen (of_decide_eq_true h)
  | 32, h => exact ok_newa_snd h
  | 33, h =>
    have h : (okd mi pc (.anewarray c) 3 && (x_ow mi == x_lan.1 && c == x_lan.2.1)) = true := h
    rw [Bool.and_eq_true, Bool.and_eq_true] at h
    have e1 : x_ow mi = x_lan.1 := by simpa using h.2.1
    have e2 : c = x_lan.2.1 := by simpa using h.2.2
    subst e2
    exact snd_anew (of_decide_eq_true h.1) (by rw [e1]; exact x_at_in x_lan_ok)
  | 34, h => exact ok_new_snd h
  | 35, h => exact ok_call_snd h
  | 36, h => exact ok_ret_snd h
  | 37, h => exact snd_sw (of_decide_eq_true h) rfl
  | 38, h =>
    have h : (ok_lsw mi pc a n) = true := h
    have h : ok_lsw mi pc a n = true := h
    unfold ok_lsw at h
    rw [Bool.and_eq_true] at h
    exact snd_lsw (of_decide_eq_true h.1) h.2
  | 39, h => exact ok_copy_snd h
  | 40, h =>
    have h : (okd mi pc (.invokevirtual c) 3 && (x_ow mi == x_lcn.1 && c == x_lcn.2.1)) = true := h
    rw [Bool.and_eq_true, Bool.and_eq_true] at h
    have e1 : x_ow mi = x_lcn.1 := by simpa using h.2.1
    have e2 : c = x_lcn.2.1 := by simpa using h.2.2
    subst e2
    exact snd_clone (of_decide_eq_true h.1) (by rw [e1]; exact x_at_in x_lcn_ok) x_w_clm x_w_cln x_w_cli x_w_cls x_w_ai
  | 41, h =>
    have h : (okd mi pc (.checkcast c) 3 && (x_ow mi == x_lck.1 && c == x_lck.2.1)) = true := h
    rw [Bool.and_eq_true, Bool.and_eq_true] at h
    have e1 : x_ow mi = x_lck.1 := by simpa using h.2.1
    have e2 : c = x_lck.2.1 := by simpa using h.2.2
    subst e2
    exact snd_cast (of_decide_eq_true h.1) (by rw [e1]; exact x_at_in x_lck_ok)
  | 42, h =>
    have h : (okd mi pc (.ldc (x_sidx a)) 2 && (a < 14 && x_on (x_ow mi) == "FilmPrinter$Reader")) = true := h
    rw [Bool.and_eq_true, Bool.and_eq_true] at h
    exact snd_ldcS (of_decide_eq_true h.2.1) (of_decide_eq_true h.1) (by simpa using h.2.2)
  | 43, h => exact ok_oin_snd h
  | 44, h => exact ok_gets_snd h
  | 45, h => exact snd_min (ok_math_of h).1 (ok_math_of h).2 x_w_smin x_w_mini x_w_cmin
  | 46, h => exact snd_max (ok_math_of h).1 (ok_math_of h).2 x_w_smax x_w_mini x_w_cmax
  | 47, h => exact snd_abs (ok_math_of h).1 (ok_math_of h).2 x_w_sabs x_w_mini x_w_cabs
  | 50, h => exact snd_isub (of_decide_eq_true h)
  | 51, h => exact snd_imul (of_decide_eq_true h)
  | 52, h => exact snd_iand (of_decide_eq_true h)
  | 53, h => exact snd_ior (of_decide_eq_true h)
  | 54, h => exact snd_ishl (of_decide_eq_true h)
  | 55, h => exact snd_ishr (of_decide_eq_true h)
  | 56, h => exact snd_iushr (of_decide_eq_true h)
  | 57, h => exact snd_lsub (of_decide_eq_true h)
  | 58, h => exact snd_lmul (of_decide_eq_true h)
  | 48, h => cases h
  | 49, h => cases h
  | t + 59, h => cases h
theorem x_blt {α : Type} {n pc : Nat} {A : Option α} (h : n ≤ pc) : (bif Nat.blt pc n then A else none) = none := by
  have e : Nat.blt pc n = false := by
    unfold Nat.blt
    cases hb : Nat.ble (pc + 1) n with
    | true => have := Nat.le_of_ble_eq_true hb; omega
    | false => rfl
  rw [e]
  rfl
def x_kc (t : Nat → Option xI) (mi a n : Nat) : Bool := (List.range n).all (fun i => match t (a + i) with
  | some q => okb mi (a + i) q
  | none => true)
theorem x_kc_at {t : Nat → Option xI} {mi a n pc : Nat} {q : xI} (h : x_kc t mi a n = true) (h1 : a ≤ pc) (h2 : pc < a + n) (hq : t pc = some q) : okb mi pc q = true := by
  have h3 := List.all_eq_true.mp h (pc - a) (List.mem_range.mpr (by omega))
  have e : a + (pc - a) = pc := by omega
  rw [e, hq] at h3
  exact h3
