/-! WHEN A MICRO-OP IS RIGHT: checked by the kernel, once -/
def okd (mi pc : Nat) (I : Instr) (n : Nat) : Bool := decide (decode (x_cc mi) pc = .ok (I, n))
def x_flok (t : Nat × Nat × Nat × Nat × (Nat × Nat)) : Bool := match x_cls[t.2.2.1]? with
  | some q => decide (t.2.2.2.1 < q.2.2) && x_at t.2.2.2.2 (Cond.fieldLink (x_on t.1) t.2.1 (q.2.1 t.2.2.2.1).1 (q.2.1 t.2.2.2.1).2.1 (q.2.1 t.2.2.2.1).2.2.1)
  | none => false
def x_mkok (t : Nat × Nat × Nat × Nat × (Nat × Nat) × (Nat × Nat) × (Nat × Nat)) : Bool :=
  decide (t.2.2.1 < x_cnt) && match t.2.2.2.1 with
  | 0 => decide (x_na t.2.2.1 = x_np t.2.2.1) && (x_at t.2.2.2.2.1 (Cond.methodLink (x_on t.1) t.2.1 (x_nm t.2.2.1)) && x_at t.2.2.2.2.2.1 (Cond.static (x_nm t.2.2.1)))
  | 1 => decide (x_na t.2.2.1 = x_np t.2.2.1) && (decide (x_nm t.2.2.1 = ⟨"FilmPrinter", (x_nm t.2.2.1).name, "(III)I"⟩) && (decide ((x_on t.1, t.2.1, (x_nm t.2.2.1).name) ∈ [("FilmPrinter$Asker", 54, "nearest"), ("FilmPrinter$Edition", 63, "turnAfter"), ("FilmPrinter$Edition", 73, "nearest"), ("FilmPrinter$Explainer", 80, "turnAfter"), ("FilmPrinter$State", 99, "nearest")]) && x_at t.2.2.2.2.2.1 (Cond.static (x_nm t.2.2.1))))
  | 2 => decide (x_na t.2.2.1 = x_np t.2.2.1 + 1) && (match x_cls[x_ow t.2.2.1]? with
    | some q => decide ((x_nm t.2.2.1).cls = q.1) && (x_at t.2.2.2.2.1 (Cond.methodLink (x_on t.1) t.2.1 (x_nm t.2.2.1)) && (x_at t.2.2.2.2.2.1 (Cond.instanceMethod (x_nm t.2.2.1)) && x_at t.2.2.2.2.2.2 (Cond.selects q.1 (x_nm t.2.2.1) (x_nm t.2.2.1))))
    | none => false)
  | 3 => decide (x_na t.2.2.1 = x_np t.2.2.1 + 1) && (decide (x_rt t.2.2.1 = none) && (decide ((x_nm t.2.2.1).name = "<init>") && (x_at t.2.2.2.2.1 (Cond.methodLink (x_on t.1) t.2.1 (x_nm t.2.2.1)) && x_at t.2.2.2.2.2.1 (Cond.instanceMethod (x_nm t.2.2.1)))))
  | 4 => decide (x_na t.2.2.1 = x_np t.2.2.1 + 1) && (decide ((x_nm t.2.2.1).cls = "java/lang/String") && (x_at t.2.2.2.2.1 (Cond.methodLink (x_on t.1) t.2.1 (x_nm t.2.2.1)) && (x_at t.2.2.2.2.2.1 (Cond.instanceMethod (x_nm t.2.2.1)) && x_at t.2.2.2.2.2.2 (Cond.selects "java/lang/String" (x_nm t.2.2.1) (x_nm t.2.2.1)))))
  | _ => false
def x_nwok (t : Nat × Nat × Nat × (Nat × Nat) × (Nat × Nat) × (Nat × Nat)) : Bool := match x_cls[t.2.2.1]? with
  | some q => decide ((x_dft t.2.2.1).length = q.2.2) && ((List.range q.2.2).all (fun k => match parseFieldDescriptor (q.2.1 k).2.2.1 with
      | some ty => xdfok ty && decide ((x_dft t.2.2.1)[k]? = some (xdf ty))
      | none => false) && (x_at t.2.2.2.1 (Cond.classLink (x_on t.1) t.2.1 q.1) && (x_at t.2.2.2.2.1 (Cond.instantiable q.1 q.2.2) && x_at t.2.2.2.2.2 (Cond.initialized q.1))))
  | none => false
theorem x_lfl_ok : x_lfl.all x_flok = true := by decide +kernel
theorem x_lmk_ok : x_lmk.all x_mkok = true := by decide +kernel
theorem x_lnw_ok : x_lnw.all x_nwok = true := by decide +kernel
theorem x_lcl_ok : x_lcl.all (fun t => x_at t.2.2.2 (Cond.constant (x_on t.1) t.2.1 (Int32.ofInt t.2.2.1))) = true := by decide +kernel
theorem x_lll_ok : x_lll.all (fun t => x_at t.2.2.2 (Cond.constantLong (x_on t.1) t.2.1 (Int64.ofInt t.2.2.1))) = true := by decide +kernel
def x_man : Nat → MethodName := fun k => match k with
  | 0 => Lib.Math.min.name
  | 1 => Lib.Math.max.name
  | _ => Lib.Math.abs.name
theorem x_lma_ok : x_lma.all (fun t => x_at t.2.2.2 (Cond.methodLink (x_on t.1) t.2.1 (x_man t.2.2.1))) = true := by decide +kernel
theorem x_lol_ok : x_lol.all (fun t => x_at t.2.2 (Cond.methodLink (x_on t.1) t.2.1 Lib.objectInit)) = true := by decide +kernel
theorem x_lcp_ok : x_lcp.all (fun t => x_at t.2.2 (Cond.methodLink (x_on t.1) t.2.1 arraycopyName)) = true := by decide +kernel
def x_gln : Nat → String × String × String := fun k => match k with
  | 0 => ("FilmPrinter", "LOWEST_TERM", "[I")
  | 1 => ("FilmPrinter", "HIGHEST_TERM", "[I")
  | 3 => ("java/lang/String", "COMPACT_STRINGS", "Z")
  | _ => ("jdk/internal/util/Preconditions", "SIOOBE_FORMATTER", "Ljava/util/function/BiFunction;")
theorem x_lgl_ok : x_lgl.all (fun t => x_at t.2.2.2 (Cond.fieldLink (x_on t.1) t.2.1 (x_gln t.2.2.1).1 (x_gln t.2.2.1).2.1 (x_gln t.2.2.1).2.2)) = true := by decide +kernel
def x_sfn : Nat → String × String := fun k => match k with
  | 0 => ("value", "[B")
  | _ => ("coder", "B")
theorem x_lsf_ok : x_lsf.all (fun t => x_at t.2.2.2 (Cond.fieldLink (x_on t.1) t.2.1 "java/lang/String" (x_sfn t.2.2.1).1 (x_sfn t.2.2.1).2)) = true := by decide +kernel
theorem x_lcn_ok : x_at x_lcn.2.2 (Cond.methodLink (x_on x_lcn.1) x_lcn.2.1 ⟨"[I", "clone", "()Ljava/lang/Object;"⟩) = true := by decide +kernel
theorem x_lan_ok : x_at x_lan.2.2 (Cond.classLink (x_on x_lan.1) x_lan.2.1 "FilmPrinter$State") = true := by decide +kernel
theorem x_lck_ok : x_at x_lck.2.2 (Cond.classLink (x_on x_lck.1) x_lck.2.1 "[I") = true := by decide +kernel
