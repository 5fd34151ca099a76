/-! MICRO-OPS as data, and when one is right at a place -/
/-- what it does, two numbers, one more, its length -/
abbrev xI : Type := Nat × Nat × Int × Nat × Nat
def x_add : xF := fun pc L S h => match S with
  | .inl y :: .inl x :: S => xon (pc + 1) L (vI (x + y) :: S) h
  | _ => none
def x_sub : xF := fun pc L S h => match S with
  | .inl y :: .inl x :: S => xon (pc + 1) L (vI (x - y) :: S) h
  | _ => none
def x_mul : xF := fun pc L S h => match S with
  | .inl y :: .inl x :: S => xon (pc + 1) L (vI (x * y) :: S) h
  | _ => none
def x_addl : xF := fun pc L S h => match S with
  | .inr (.inl y) :: .inr (.inl x) :: S => xon (pc + 1) L (vL (x + y) :: S) h
  | _ => none
def x_subl : xF := fun pc L S h => match S with
  | .inr (.inl y) :: .inr (.inl x) :: S => xon (pc + 1) L (vL (x - y) :: S) h
  | _ => none
def x_mull : xF := fun pc L S h => match S with
  | .inr (.inl y) :: .inr (.inl x) :: S => xon (pc + 1) L (vL (x * y) :: S) h
  | _ => none
def x_stv : Nat → xV := fun a => match a with
  | 0 => vE 1
  | 1 => vE 2
  | 2 => vE 3
  | 3 => vI 1
  | _ => vE 4
def xop (q : xI) (X : xX) : xF := match q with
  | (0, _, b, _, n) => x_ic b n
  | (1, _, b, _, n) => x_lc b n
  | (2, a, _, _, n) => x_il a n
  | (3, a, _, _, n) => x_ll a n
  | (4, a, _, _, n) => x_al a n
  | (5, a, _, _, n) => x_is a n
  | (6, a, _, _, n) => x_ls a n
  | (7, a, _, _, n) => x_as a n
  | (8, a, b, _, n) => x_inc a b n
  | (9, _, _, _, _) => x_add
  | (10, _, _, _, _) => x_div
  | (11, _, _, _, _) => x_rem
  | (12, _, _, _, _) => x_neg
  | (13, _, _, _, _) => x_addl
  | (14, _, _, _, _) => x_ldiv
  | (15, _, _, _, _) => x_i2l
  | (16, _, _, _, _) => x_l2i
  | (17, _, _, _, _) => x_lcmp
  | (18, _, _, _, _) => x_i2c
  | (19, _, _, _, _) => x_dup
  | (20, _, _, _, _) => x_dup2
  | (21, _, _, _, _) => x_pop
  | (22, a, _, c, _) => x_if a c
  | (23, a, _, c, _) => x_cmp a c
  | (24, _, _, c, _) => x_goto c
  | (25, _, _, c, _) => x_nnul c
  | (26, a, b, _, _) => x_getf a b.toNat
  | (27, a, b, c, _) => x_putf a b.toNat (c % 8)
  | (28, a, _, _, _) => x_ref (x_stv a) 3
  | (29, a, _, _, _) => x_ald a X
  | (30, a, _, _, _) => x_ast a
  | (31, _, _, _, _) => x_alen X
  | (32, a, _, _, _) => x_newa a
  | (33, _, _, _, _) => x_anew
  | (34, a, _, _, _) => x_new a (x_dft a)
  | (35, a, b, _, _) => x_call a (x_na a) (xrk b.toNat (x_ow a))
  | (36, a, _, _, _) => x_ret a
  | (37, a, _, _, _) => x_sw (x_swt a).1 (x_swt a).2.1 (x_swt a).2.2
  | (38, a, _, _, _) => x_lsw (x_lst a).1 (x_lst a).2
  | (39, _, _, _, _) => x_copy
  | (40, _, _, _, _) => x_clone X
  | (41, _, _, _, _) => x_cast
  | (42, a, _, _, _) => x_ref (vS a) 2
  | (43, _, _, _, _) => x_oin
  | (44, a, _, _, _) => x_gets a
  | (45, _, _, _, _) => x_min
  | (46, _, _, _, _) => x_max
  | (47, _, _, _, _) => x_abs
  | (50, _, _, _, _) => x_sub
  | (51, _, _, _, _) => x_mul
  | (52, _, _, _, _) => x_bin xband
  | (53, _, _, _, _) => x_bin xbor
  | (54, _, _, _, _) => x_bin xshl
  | (55, _, _, _, _) => x_bin xshr
  | (56, _, _, _, _) => x_bin xushr
  | (57, _, _, _, _) => x_subl
  | (58, _, _, _, _) => x_mull
  | _ => fun _ _ _ _ => none
/-- cells never go -/
def xgr (F : xF) : Prop := ∀ pc L S h pc' L' S' h', F pc L S h = some (.inl (pc', L', S', h')) → h.2.1 ≤ h'.2.1 ∧ h.2.2 ≤ h'.2.2
theorem xgr_on {pc : Nat} {L S : List xV} {h h0 : xH} {pc' : Nat} {L' S' : List xV} {h' : xH} (e : xon pc L S h = some (.inl (pc', L', S', h'))) (h1 : h0.2.1 ≤ h.2.1 ∧ h0.2.2 ≤ h.2.2) : h0.2.1 ≤ h'.2.1 ∧ h0.2.2 ≤ h'.2.2 := by
  cases e
  exact h1
theorem xgr_same (h : xH) : h.2.1 ≤ h.2.1 ∧ h.2.2 ≤ h.2.2 := ⟨Nat.le_refl _, Nat.le_refl _⟩
theorem xgr_set (h : xH) (k : Nat) (c : xC) : h.2.1 ≤ (xset h k c).2.1 ∧ h.2.2 ≤ (xset h k c).2.2 := ⟨Nat.le_refl _, Nat.le_refl _⟩
theorem xgr_new (h : xH) (c : xC) (sz : Nat) : h.2.1 ≤ (xnew h c sz).2.1 ∧ h.2.2 ≤ (xnew h c sz).2.2 := ⟨Nat.le_succ _, Nat.le_add_right _ _⟩
theorem xw_gr_ic (b : Int) (n : Nat) : xgr (x_ic b n) := by
  intro pc L S h pc' L' S' h' e
  unfold x_ic at e
  repeat' split at e
  all_goals first | exact xgr_on e (xgr_same h) | exact xgr_on e (xgr_set h _ _) | exact xgr_on e (xgr_new h _ _) | cases e
theorem xw_gr_lc (b : Int) (n : Nat) : xgr (x_lc b n) := by
  intro pc L S h pc' L' S' h' e
  unfold x_lc at e
  repeat' split at e
  all_goals first | exact xgr_on e (xgr_same h) | exact xgr_on e (xgr_set h _ _) | exact xgr_on e (xgr_new h _ _) | cases e
theorem xw_gr_il (a : Nat) (n : Nat) : xgr (x_il a n) := by
  intro pc L S h pc' L' S' h' e
  unfold x_il at e
  repeat' split at e
  all_goals first | exact xgr_on e (xgr_same h) | exact xgr_on e (xgr_set h _ _) | exact xgr_on e (xgr_new h _ _) | cases e
theorem xw_gr_ll (a : Nat) (n : Nat) : xgr (x_ll a n) := by
  intro pc L S h pc' L' S' h' e
  unfold x_ll at e
  repeat' split at e
  all_goals first | exact xgr_on e (xgr_same h) | exact xgr_on e (xgr_set h _ _) | exact xgr_on e (xgr_new h _ _) | cases e
theorem xw_gr_al (a : Nat) (n : Nat) : xgr (x_al a n) := by
  intro pc L S h pc' L' S' h' e
  unfold x_al at e
  repeat' split at e
  all_goals first | exact xgr_on e (xgr_same h) | exact xgr_on e (xgr_set h _ _) | exact xgr_on e (xgr_new h _ _) | cases e
theorem xw_gr_is (a : Nat) (n : Nat) : xgr (x_is a n) := by
  intro pc L S h pc' L' S' h' e
  unfold x_is at e
  repeat' split at e
  all_goals first | exact xgr_on e (xgr_same h) | exact xgr_on e (xgr_set h _ _) | exact xgr_on e (xgr_new h _ _) | cases e
theorem xw_gr_ls (a : Nat) (n : Nat) : xgr (x_ls a n) := by
  intro pc L S h pc' L' S' h' e
  unfold x_ls at e
  repeat' split at e
  all_goals first | exact xgr_on e (xgr_same h) | exact xgr_on e (xgr_set h _ _) | exact xgr_on e (xgr_new h _ _) | cases e
theorem xw_gr_as (a : Nat) (n : Nat) : xgr (x_as a n) := by
  intro pc L S h pc' L' S' h' e
  unfold x_as at e
  repeat' split at e
  all_goals first | exact xgr_on e (xgr_same h) | exact xgr_on e (xgr_set h _ _) | exact xgr_on e (xgr_new h _ _) | cases e
theorem xw_gr_inc (a : Nat) (b : Int) (n : Nat) : xgr (x_inc a b n) := by
  intro pc L S h pc' L' S' h' e
  unfold x_inc at e
  repeat' split at e
  all_goals first | exact xgr_on e (xgr_same h) | exact xgr_on e (xgr_set h _ _) | exact xgr_on e (xgr_new h _ _) | cases e
theorem xw_gr_add  : xgr (x_add) := by
  intro pc L S h pc' L' S' h' e
  unfold x_add at e
  repeat' split at e
  all_goals first | exact xgr_on e (xgr_same h) | exact xgr_on e (xgr_set h _ _) | exact xgr_on e (xgr_new h _ _) | cases e
theorem xw_gr_sub  : xgr (x_sub) := by
  intro pc L S h pc' L' S' h' e
  unfold x_sub at e
  repeat' split at e
  all_goals first | exact xgr_on e (xgr_same h) | exact xgr_on e (xgr_set h _ _) | exact xgr_on e (xgr_new h _ _) | cases e
theorem xw_gr_mul  : xgr (x_mul) := by
  intro pc L S h pc' L' S' h' e
  unfold x_mul at e
  repeat' split at e
  all_goals first | exact xgr_on e (xgr_same h) | exact xgr_on e (xgr_set h _ _) | exact xgr_on e (xgr_new h _ _) | cases e
theorem xw_gr_addl  : xgr (x_addl) := by
  intro pc L S h pc' L' S' h' e
  unfold x_addl at e
  repeat' split at e
  all_goals first | exact xgr_on e (xgr_same h) | exact xgr_on e (xgr_set h _ _) | exact xgr_on e (xgr_new h _ _) | cases e
theorem xw_gr_subl  : xgr (x_subl) := by
  intro pc L S h pc' L' S' h' e
  unfold x_subl at e
  repeat' split at e
  all_goals first | exact xgr_on e (xgr_same h) | exact xgr_on e (xgr_set h _ _) | exact xgr_on e (xgr_new h _ _) | cases e
theorem xw_gr_mull  : xgr (x_mull) := by
  intro pc L S h pc' L' S' h' e
  unfold x_mull at e
  repeat' split at e
  all_goals first | exact xgr_on e (xgr_same h) | exact xgr_on e (xgr_set h _ _) | exact xgr_on e (xgr_new h _ _) | cases e
theorem xw_gr_div  : xgr (x_div) := by
  intro pc L S h pc' L' S' h' e
  unfold x_div at e
  repeat' split at e
  all_goals first | exact xgr_on e (xgr_same h) | exact xgr_on e (xgr_set h _ _) | exact xgr_on e (xgr_new h _ _) | cases e
theorem xw_gr_rem  : xgr (x_rem) := by
  intro pc L S h pc' L' S' h' e
  unfold x_rem at e
  repeat' split at e
  all_goals first | exact xgr_on e (xgr_same h) | exact xgr_on e (xgr_set h _ _) | exact xgr_on e (xgr_new h _ _) | cases e
theorem xw_gr_neg  : xgr (x_neg) := by
  intro pc L S h pc' L' S' h' e
  unfold x_neg at e
  repeat' split at e
  all_goals first | exact xgr_on e (xgr_same h) | exact xgr_on e (xgr_set h _ _) | exact xgr_on e (xgr_new h _ _) | cases e
theorem xw_gr_ldiv  : xgr (x_ldiv) := by
  intro pc L S h pc' L' S' h' e
  unfold x_ldiv at e
  repeat' split at e
  all_goals first | exact xgr_on e (xgr_same h) | exact xgr_on e (xgr_set h _ _) | exact xgr_on e (xgr_new h _ _) | cases e
theorem xw_gr_i2l  : xgr (x_i2l) := by
  intro pc L S h pc' L' S' h' e
  unfold x_i2l at e
  repeat' split at e
  all_goals first | exact xgr_on e (xgr_same h) | exact xgr_on e (xgr_set h _ _) | exact xgr_on e (xgr_new h _ _) | cases e
theorem xw_gr_l2i  : xgr (x_l2i) := by
  intro pc L S h pc' L' S' h' e
  unfold x_l2i at e
  repeat' split at e
  all_goals first | exact xgr_on e (xgr_same h) | exact xgr_on e (xgr_set h _ _) | exact xgr_on e (xgr_new h _ _) | cases e
theorem xw_gr_lcmp  : xgr (x_lcmp) := by
  intro pc L S h pc' L' S' h' e
  unfold x_lcmp at e
  repeat' split at e
  all_goals first | exact xgr_on e (xgr_same h) | exact xgr_on e (xgr_set h _ _) | exact xgr_on e (xgr_new h _ _) | cases e
theorem xw_gr_i2c  : xgr (x_i2c) := by
  intro pc L S h pc' L' S' h' e
  unfold x_i2c at e
  repeat' split at e
  all_goals first | exact xgr_on e (xgr_same h) | exact xgr_on e (xgr_set h _ _) | exact xgr_on e (xgr_new h _ _) | cases e
theorem xw_gr_dup  : xgr (x_dup) := by
  intro pc L S h pc' L' S' h' e
  unfold x_dup at e
  repeat' split at e
  all_goals first | exact xgr_on e (xgr_same h) | exact xgr_on e (xgr_set h _ _) | exact xgr_on e (xgr_new h _ _) | cases e
theorem xw_gr_dup2  : xgr (x_dup2) := by
  intro pc L S h pc' L' S' h' e
  unfold x_dup2 at e
  repeat' split at e
  all_goals first | exact xgr_on e (xgr_same h) | exact xgr_on e (xgr_set h _ _) | exact xgr_on e (xgr_new h _ _) | cases e
theorem xw_gr_pop  : xgr (x_pop) := by
  intro pc L S h pc' L' S' h' e
  unfold x_pop at e
  repeat' split at e
  all_goals first | exact xgr_on e (xgr_same h) | exact xgr_on e (xgr_set h _ _) | exact xgr_on e (xgr_new h _ _) | cases e
theorem xw_gr_if (a : Nat) (t : Nat) : xgr (x_if a t) := by
  intro pc L S h pc' L' S' h' e
  unfold x_if at e
  repeat' split at e
  all_goals first | exact xgr_on e (xgr_same h) | exact xgr_on e (xgr_set h _ _) | exact xgr_on e (xgr_new h _ _) | cases e
theorem xw_gr_cmp (a : Nat) (t : Nat) : xgr (x_cmp a t) := by
  intro pc L S h pc' L' S' h' e
  unfold x_cmp at e
  repeat' split at e
  all_goals first | exact xgr_on e (xgr_same h) | exact xgr_on e (xgr_set h _ _) | exact xgr_on e (xgr_new h _ _) | cases e
theorem xw_gr_goto (t : Nat) : xgr (x_goto t) := by
  intro pc L S h pc' L' S' h' e
  unfold x_goto at e
  repeat' split at e
  all_goals first | exact xgr_on e (xgr_same h) | exact xgr_on e (xgr_set h _ _) | exact xgr_on e (xgr_new h _ _) | cases e
theorem xw_gr_nnul (t : Nat) : xgr (x_nnul t) := by
  intro pc L S h pc' L' S' h' e
  unfold x_nnul at e
  repeat' split at e
  all_goals first | exact xgr_on e (xgr_same h) | exact xgr_on e (xgr_set h _ _) | exact xgr_on e (xgr_new h _ _) | cases e
theorem xw_gr_getf (a : Nat) (k : Nat) : xgr (x_getf a k) := by
  intro pc L S h pc' L' S' h' e
  unfold x_getf at e
  repeat' split at e
  all_goals first | exact xgr_on e (xgr_same h) | exact xgr_on e (xgr_set h _ _) | exact xgr_on e (xgr_new h _ _) | cases e
theorem xw_gr_putf (a : Nat) (k : Nat) (n : Nat) : xgr (x_putf a k n) := by
  intro pc L S h pc' L' S' h' e
  unfold x_putf at e
  repeat' split at e
  all_goals first | exact xgr_on e (xgr_same h) | exact xgr_on e (xgr_set h _ _) | exact xgr_on e (xgr_new h _ _) | cases e
theorem xw_gr_ref (v : xV) (n : Nat) : xgr (x_ref v n) := by
  intro pc L S h pc' L' S' h' e
  unfold x_ref at e
  repeat' split at e
  all_goals first | exact xgr_on e (xgr_same h) | exact xgr_on e (xgr_set h _ _) | exact xgr_on e (xgr_new h _ _) | cases e
theorem xw_gr_ald (a : Nat) (X : xX) : xgr (x_ald a X) := by
  intro pc L S h pc' L' S' h' e
  unfold x_ald at e
  repeat' split at e
  all_goals first | exact xgr_on e (xgr_same h) | exact xgr_on e (xgr_set h _ _) | exact xgr_on e (xgr_new h _ _) | cases e
theorem xw_gr_ast (a : Nat) : xgr (x_ast a) := by
  intro pc L S h pc' L' S' h' e
  unfold x_ast at e
  repeat' split at e
  all_goals first | exact xgr_on e (xgr_same h) | exact xgr_on e (xgr_set h _ _) | exact xgr_on e (xgr_new h _ _) | cases e
theorem xw_gr_alen (X : xX) : xgr (x_alen X) := by
  intro pc L S h pc' L' S' h' e
  unfold x_alen at e
  repeat' split at e
  all_goals first | exact xgr_on e (xgr_same h) | exact xgr_on e (xgr_set h _ _) | exact xgr_on e (xgr_new h _ _) | cases e
theorem xw_gr_newa (a : Nat) : xgr (x_newa a) := by
  intro pc L S h pc' L' S' h' e
  unfold x_newa at e
  repeat' split at e
  all_goals first | exact xgr_on e (xgr_same h) | exact xgr_on e (xgr_set h _ _) | exact xgr_on e (xgr_new h _ _) | cases e
theorem xw_gr_anew  : xgr (x_anew) := by
  intro pc L S h pc' L' S' h' e
  unfold x_anew at e
  repeat' split at e
  all_goals first | exact xgr_on e (xgr_same h) | exact xgr_on e (xgr_set h _ _) | exact xgr_on e (xgr_new h _ _) | cases e
theorem xw_gr_new (a : Nat) (fs : List xV) : xgr (x_new a fs) := by
  intro pc L S h pc' L' S' h' e
  unfold x_new at e
  repeat' split at e
  all_goals first | exact xgr_on e (xgr_same h) | exact xgr_on e (xgr_set h _ _) | exact xgr_on e (xgr_new h _ _) | cases e
theorem xw_gr_call (a : Nat) (n : Nat) (ok : xH → List xV → Bool) : xgr (x_call a n ok) := by
  intro pc L S h pc' L' S' h' e
  unfold x_call at e
  repeat' split at e
  all_goals first | exact xgr_on e (xgr_same h) | exact xgr_on e (xgr_set h _ _) | exact xgr_on e (xgr_new h _ _) | cases e
theorem xw_gr_ret (a : Nat) : xgr (x_ret a) := by
  intro pc L S h pc' L' S' h' e
  unfold x_ret at e
  repeat' split at e
  all_goals first | exact xgr_on e (xgr_same h) | exact xgr_on e (xgr_set h _ _) | exact xgr_on e (xgr_new h _ _) | cases e
theorem xw_gr_sw (b : Int) (ts : List Nat) (t : Nat) : xgr (x_sw b ts t) := by
  intro pc L S h pc' L' S' h' e
  unfold x_sw at e
  repeat' split at e
  all_goals first | exact xgr_on e (xgr_same h) | exact xgr_on e (xgr_set h _ _) | exact xgr_on e (xgr_new h _ _) | cases e
theorem xw_gr_lsw (ps : List (Int × Nat)) (t : Nat) : xgr (x_lsw ps t) := by
  intro pc L S h pc' L' S' h' e
  unfold x_lsw at e
  repeat' split at e
  all_goals first | exact xgr_on e (xgr_same h) | exact xgr_on e (xgr_set h _ _) | exact xgr_on e (xgr_new h _ _) | cases e
theorem xw_gr_copy  : xgr (x_copy) := by
  intro pc L S h pc' L' S' h' e
  unfold x_copy at e
  repeat' split at e
  all_goals first | exact xgr_on e (xgr_same h) | exact xgr_on e (xgr_set h _ _) | exact xgr_on e (xgr_new h _ _) | cases e
theorem xw_gr_clone (X : xX) : xgr (x_clone X) := by
  intro pc L S h pc' L' S' h' e
  unfold x_clone at e
  repeat' split at e
  all_goals first | exact xgr_on e (xgr_same h) | exact xgr_on e (xgr_set h _ _) | exact xgr_on e (xgr_new h _ _) | cases e
theorem xw_gr_cast  : xgr (x_cast) := by
  intro pc L S h pc' L' S' h' e
  unfold x_cast at e
  repeat' split at e
  all_goals first | exact xgr_on e (xgr_same h) | exact xgr_on e (xgr_set h _ _) | exact xgr_on e (xgr_new h _ _) | cases e
theorem xw_gr_oin  : xgr (x_oin) := by
  intro pc L S h pc' L' S' h' e
  unfold x_oin at e
  repeat' split at e
  all_goals first | exact xgr_on e (xgr_same h) | exact xgr_on e (xgr_set h _ _) | exact xgr_on e (xgr_new h _ _) | cases e
theorem xw_gr_gets (a : Nat) : xgr (x_gets a) := by
  intro pc L S h pc' L' S' h' e
  unfold x_gets at e
  repeat' split at e
  all_goals first | exact xgr_on e (xgr_same h) | exact xgr_on e (xgr_set h _ _) | exact xgr_on e (xgr_new h _ _) | cases e
theorem xw_gr_min  : xgr (x_min) := by
  intro pc L S h pc' L' S' h' e
  unfold x_min at e
  repeat' split at e
  all_goals first | exact xgr_on e (xgr_same h) | exact xgr_on e (xgr_set h _ _) | exact xgr_on e (xgr_new h _ _) | cases e
theorem xw_gr_max  : xgr (x_max) := by
  intro pc L S h pc' L' S' h' e
  unfold x_max at e
  repeat' split at e
  all_goals first | exact xgr_on e (xgr_same h) | exact xgr_on e (xgr_set h _ _) | exact xgr_on e (xgr_new h _ _) | cases e
theorem xw_gr_abs  : xgr (x_abs) := by
  intro pc L S h pc' L' S' h' e
  unfold x_abs at e
  repeat' split at e
  all_goals first | exact xgr_on e (xgr_same h) | exact xgr_on e (xgr_set h _ _) | exact xgr_on e (xgr_new h _ _) | cases e
theorem xw_gr_bin (g : Int → Int → Int) : xgr (x_bin g) := by
  intro pc L S h pc' L' S' h' e
  unfold x_bin at e
  repeat' split at e
  all_goals first | exact xgr_on e (xgr_same h) | exact xgr_on e (xgr_set h _ _) | exact xgr_on e (xgr_new h _ _) | cases e
theorem xop_gr (q : xI) (X : xX) : xgr (xop q X) := by
  obtain ⟨t, a, b, c, n⟩ := q
  match t with
  | 0 => exact xw_gr_ic b n
  | 1 => exact xw_gr_lc b n
  | 2 => exact xw_gr_il a n
  | 3 => exact xw_gr_ll a n
  | 4 => exact xw_gr_al a n
  | 5 => exact xw_gr_is a n
  | 6 => exact xw_gr_ls a n
  | 7 => exact xw_gr_as a n
  | 8 => exact xw_gr_inc a b n
  | 9 => exact xw_gr_add
  | 10 => exact xw_gr_div
  | 11 => exact xw_gr_rem
  | 12 => exact xw_gr_neg
  | 13 => exact xw_gr_addl
  | 14 => exact xw_gr_ldiv
  | 15 => exact xw_gr_i2l
  | 16 => exact xw_gr_l2i
  | 17 => exact xw_gr_lcmp
  | 18 => exact xw_gr_i2c
  | 19 => exact xw_gr_dup
  | 20 => exact xw_gr_dup2
  | 21 => exact xw_gr_pop
  | 22 => exact xw_gr_if a c
  | 23 => exact xw_gr_cmp a c
  | 24 => exact xw_gr_goto c
  | 25 => exact xw_gr_nnul c
  | 26 => exact xw_gr_getf a _
  | 27 => exact xw_gr_putf a _ _
  | 28 => exact xw_gr_ref _ _
  | 29 => exact xw_gr_ald a X
  | 30 => exact xw_gr_ast a
  | 31 => exact xw_gr_alen X
  | 32 => exact xw_gr_newa a
  | 33 => exact xw_gr_anew
  | 34 => exact xw_gr_new a _
  | 35 => exact xw_gr_call a _ _
  | 36 => exact xw_gr_ret a
  | 37 => exact xw_gr_sw _ _ _
  | 38 => exact xw_gr_lsw _ _
  | 39 => exact xw_gr_copy
  | 40 => exact xw_gr_clone X
  | 41 => exact xw_gr_cast
  | 42 => exact xw_gr_ref _ _
  | 43 => exact xw_gr_oin
  | 44 => exact xw_gr_gets a
  | 45 => exact xw_gr_min
  | 46 => exact xw_gr_max
  | 47 => exact xw_gr_abs
  | 50 => exact xw_gr_sub
  | 51 => exact xw_gr_mul
  | 52 => exact xw_gr_bin _
  | 53 => exact xw_gr_bin _
  | 54 => exact xw_gr_bin _
  | 55 => exact xw_gr_bin _
  | 56 => exact xw_gr_bin _
  | 57 => exact xw_gr_subl
  | 58 => exact xw_gr_mull
  | 48 => intro pc L S h pc' L' S' h' e; cases e
  | 49 => intro pc L S h pc' L' S' h' e; cases e
  | t + 59 => intro pc L S h pc' L' S' h' e; cases e
