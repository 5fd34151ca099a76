/-! THE ABSTRACT MACHINE: values over the integers, cells numbered in the order of their making -/
abbrev xV : Type := Int ⊕ Int ⊕ Option Nat ⊕ Nat ⊕ Nat ⊕ Unit
abbrev vI (x : Int) : xV := .inl x
abbrev vL (x : Int) : xV := .inr (.inl x)
abbrev vR (k : Nat) : xV := .inr (.inr (.inl (some k)))
abbrev vN : xV := .inr (.inr (.inl none))
abbrev vE (j : Nat) : xV := .inr (.inr (.inr (.inl j)))
abbrev vS (j : Nat) : xV := .inr (.inr (.inr (.inr (.inl j))))
abbrev vU : xV := .inr (.inr (.inr (.inr (.inr ()))))
/-- a cell: an object (number of its class, fields), an array of numbers (kind 0 int, 1 boolean, 2 long; length; contents), an array of references -/
abbrev xC : Type := (Nat × List xV) ⊕ (Nat × Nat × (Nat → Int)) ⊕ (Nat × (Nat → Option Nat))
abbrev c_O (ci : Nat) (fs : List xV) : xC := .inl (ci, fs)
abbrev c_A (k n : Nat) (f : Nat → Int) : xC := .inr (.inl (k, n, f))
abbrev c_R (n : Nat) (f : Nat → Option Nat) : xC := .inr (.inr (n, f))
/-- the heap: cells, how many, slots in all -/
abbrev xH : Type := (Nat → Option xC) × Nat × Nat
/-- what lies outside: arrays that nobody writes (kind 0 int, 3 byte; length; contents) -/
abbrev xX : Type := Nat → Nat × Nat × (Nat → Int)
/-- a step's end: on at (pc, locals, stack, heap); a call (method, arguments, pc behind it, stack below); an answer -/
abbrev xR : Type := (Nat × List xV × List xV × xH) ⊕ (Nat × List xV × Nat × List xV) ⊕ (Option xV)
abbrev xF : Type := Nat → List xV → List xV → xH → Option xR
abbrev xr (x : Int) : Prop := -2147483648 ≤ x ∧ x ≤ 2147483647
abbrev xrl (x : Int) : Prop := -9223372036854775808 ≤ x ∧ x ≤ 9223372036854775807
abbrev xin (i : Int) (n : Nat) : Prop := 0 ≤ i ∧ i < n
def xup {α : Type} (f : Nat → α) (k : Nat) (v : α) : Nat → α := fun j => if j = k then v else f j
def xset (h : xH) (k : Nat) (c : xC) : xH := (xup h.1 k (some c), h.2.1, h.2.2)
def xnew (h : xH) (c : xC) (sz : Nat) : xH := (xup h.1 h.2.1 (some c), h.2.1 + 1, h.2.2 + sz)
def xon (pc : Nat) (L S : List xV) (h : xH) : Option xR := some (.inl (pc, L, S, h))
def xkill (L : List xV) (i : Nat) : List xV := match i with
  | 0 => L
  | j + 1 => match L[j]? with
    | some (.inr (.inl _)) => L.set j vU
    | _ => L
def xst1 (L : List xV) (i : Nat) (v : xV) : List xV := (xkill L i).set i v
def xst2 (L : List xV) (i : Nat) (v : xV) : List xV := ((xkill L i).set i v).set (i + 1) vU
def xcat (v : xV) : Nat := match v with
  | .inr (.inl _) => 2
  | _ => 1
def xwd (S : List xV) : Nat := (S.map xcat).sum
/-- a method's first locals -/
def xlo1 (v : xV) : List xV := match v with
  | .inr (.inl x) => [vL x, vU]
  | v => [v]
def xlo (as : List xV) : List xV := as.flatMap xlo1
def xent (n : Nat) (as : List xV) : List xV := xlo as ++ List.replicate (n - (xlo as).length) vU
def x_ic (b : Int) (n : Nat) : xF := fun pc L S h => xon (pc + n) L (vI b :: S) h
def x_lc (b : Int) (n : Nat) : xF := fun pc L S h => xon (pc + n) L (vL b :: S) h
def x_il (a n : Nat) : xF := fun pc L S h => match L[a]? with
  | some (.inl x) => xon (pc + n) L (vI x :: S) h
  | _ => none
def x_ll (a n : Nat) : xF := fun pc L S h => match L[a]? with
  | some (.inr (.inl x)) => xon (pc + n) L (vL x :: S) h
  | _ => none
def x_al (a n : Nat) : xF := fun pc L S h => match L[a]? with
  | some (.inr (.inr (.inl r))) => xon (pc + n) L (.inr (.inr (.inl r)) :: S) h
  | some (.inr (.inr (.inr (.inl j)))) => xon (pc + n) L (vE j :: S) h
  | some (.inr (.inr (.inr (.inr (.inl j))))) => xon (pc + n) L (vS j :: S) h
  | _ => none
def x_is (a n : Nat) : xF := fun pc L S h => match S with
  | .inl x :: S => if a < L.length then xon (pc + n) (xst1 L a (vI x)) S h else none
  | _ => none
def x_ls (a n : Nat) : xF := fun pc L S h => match S with
  | .inr (.inl x) :: S => if a + 1 < L.length then xon (pc + n) (xst2 L a (vL x)) S h else none
  | _ => none
def x_as (a n : Nat) : xF := fun pc L S h => match S with
  | .inr (.inr (.inl r)) :: S => if a < L.length then xon (pc + n) (xst1 L a (.inr (.inr (.inl r)))) S h else none
  | _ => none
def x_inc (a : Nat) (b : Int) (n : Nat) : xF := fun pc L S h => match L[a]? with
  | some (.inl x) => xon (pc + n) (xst1 L a (vI (x + b))) S h
  | _ => none
def xband (x y : Int) : Int := (Int32.ofInt x &&& Int32.ofInt y).toInt
def xbor (x y : Int) : Int := (Int32.ofInt x ||| Int32.ofInt y).toInt
def xshl (x y : Int) : Int := (Int32.ofInt x <<< (Int32.ofInt y &&& 31)).toInt
def xshr (x y : Int) : Int := (Int32.ofInt x >>> (Int32.ofInt y &&& 31)).toInt
def xushr (x y : Int) : Int := (((Int32.ofInt x).toUInt32 >>> ((Int32.ofInt y).toUInt32 &&& Int32.toUInt32 31)).toInt32).toInt
def xi2c (x : Int) : Int := (((Int32.ofInt x).toUInt32 % 65536).toInt32).toInt
def x_bin (g : Int → Int → Int) : xF := fun pc L S h => match S with
  | .inl y :: .inl x :: S => xon (pc + 1) L (vI (g x y) :: S) h
  | _ => none
def x_div : xF := fun pc L S h => match S with
  | .inl y :: .inl x :: S => if xr x ∧ xr y ∧ y ≠ 0 ∧ y ≠ -1 then xon (pc + 1) L (vI (x.tdiv y) :: S) h else none
  | _ => none
def x_rem : xF := fun pc L S h => match S with
  | .inl y :: .inl x :: S => if xr x ∧ xr y ∧ y ≠ 0 ∧ y ≠ -1 then xon (pc + 1) L (vI (x.tmod y) :: S) h else none
  | _ => none
def x_neg : xF := fun pc L S h => match S with
  | .inl x :: S => xon (pc + 1) L (vI (-x) :: S) h
  | _ => none
def x_binl (g : Int → Int → Int) : xF := fun pc L S h => match S with
  | .inr (.inl y) :: .inr (.inl x) :: S => xon (pc + 1) L (vL (g x y) :: S) h
  | _ => none
def x_ldiv : xF := fun pc L S h => match S with
  | .inr (.inl y) :: .inr (.inl x) :: S => if xrl x ∧ xrl y ∧ y ≠ 0 ∧ x ≠ -9223372036854775808 then xon (pc + 1) L (vL (x.tdiv y) :: S) h else none
  | _ => none
def x_i2l : xF := fun pc L S h => match S with
  | .inl x :: S => if xr x then xon (pc + 1) L (vL x :: S) h else none
  | _ => none
def x_l2i : xF := fun pc L S h => match S with
  | .inr (.inl x) :: S => xon (pc + 1) L (vI x :: S) h
  | _ => none
def x_i2c : xF := fun pc L S h => match S with
  | .inl x :: S => xon (pc + 1) L (vI (xi2c x) :: S) h
  | _ => none
def xcmp (x y : Int) : Int := if x > y then 1 else if x = y then 0 else -1
def x_lcmp : xF := fun pc L S h => match S with
  | .inr (.inl y) :: .inr (.inl x) :: S => if xrl x ∧ xrl y then xon (pc + 1) L (vI (xcmp x y) :: S) h else none
  | _ => none
def x_dup : xF := fun pc L S h => match S with
  | v :: S => if xcat v = 1 then xon (pc + 1) L (v :: v :: S) h else none
  | _ => none
def x_dup2 : xF := fun pc L S h => match S with
  | v :: w :: S => if xcat v = 1 ∧ xcat w = 1 then xon (pc + 1) L (v :: w :: v :: w :: S) h else none
  | _ => none
def x_pop : xF := fun pc L S h => match S with
  | v :: S => if xcat v = 1 then xon (pc + 1) L S h else none
  | _ => none
/-- the six comparisons: 0 eq, 1 ne, 2 lt, 3 ge, 4 gt, 5 le -/
def xcond (a : Nat) (x y : Int) : Prop := match a with
  | 0 => x = y
  | 1 => x ≠ y
  | 2 => x < y
  | 3 => y ≤ x
  | 4 => y < x
  | _ => x ≤ y
def xcondB (a : Nat) (x y : Int) : Bool := match a with
  | 0 => decide (x = y)
  | 1 => decide (x ≠ y)
  | 2 => decide (x < y)
  | 3 => decide (y ≤ x)
  | 4 => decide (y < x)
  | _ => decide (x ≤ y)
def x_if (a : Nat) (t : Nat) : xF := fun pc L S h => match S with
  | .inl x :: S => if xr x then (if xcondB a x 0 = true then xon t L S h else xon (pc + 3) L S h) else none
  | _ => none
def x_cmp (a : Nat) (t : Nat) : xF := fun pc L S h => match S with
  | .inl y :: .inl x :: S => if xr x ∧ xr y then (if xcondB a x y = true then xon t L S h else xon (pc + 3) L S h) else none
  | _ => none
def x_goto (t : Nat) : xF := fun _ L S h => xon t L S h
def x_nnul (t : Nat) : xF := fun pc L S h => match S with
  | .inr (.inr (.inl none)) :: S => xon (pc + 3) L S h
  | .inr (.inr (.inl (some _))) :: S => xon t L S h
  | _ => none
def x_getf (ci k : Nat) : xF := fun pc L S h => match S with
  | .inr (.inr (.inl (some o))) :: S => match h.1 o with
    | some (.inl (cj, fs)) => if cj = ci then match fs[k]? with
      | some v => xon (pc + 3) L (v :: S) h
      | none => none
      else none
    | _ => none
  | _ => none
/-- does a value fit a field of a kind: 0 int, 1 boolean, 2 long, 3 a reference -/
def xfit (ty : Nat) (v : xV) : Bool := match ty, v with
  | 0, .inl _ => true
  | 1, .inl x => decide (x = 0 ∨ x = 1)
  | 2, .inr (.inl _) => true
  | 3, .inr (.inr (.inl _)) => true
  | 5, .inl x => decide (x = 0)
  | 6, .inl x => decide (0 ≤ x ∧ x ≤ 65535)
  | _, _ => false
def x_putf (ci k ty : Nat) : xF := fun pc L S h => match S with
  | v :: .inr (.inr (.inl (some o))) :: S => match h.1 o with
    | some (.inl (cj, fs)) => if cj = ci ∧ k < fs.length ∧ xfit ty v = true then xon (pc + 3) L S (xset h o (c_O ci (fs.set k v))) else none
    | _ => none
  | _ => none
def x_ald (ka : Nat) (X : xX) : xF := fun pc L S h => match S with
  | .inl i :: .inr (.inr (.inl (some o))) :: S => match h.1 o with
    | some (.inr (.inl (k, n, f))) => if k = ka ∧ ka < 3 ∧ xin i n ∧ n < 2147483648 then xon (pc + 1) L ((if ka = 2 then vL (f i.toNat) else vI (f i.toNat)) :: S) h else none
    | some (.inr (.inr (n, f))) => if ka = 4 ∧ xin i n ∧ n < 2147483648 then xon (pc + 1) L (.inr (.inr (.inl (f i.toNat))) :: S) h else none
    | _ => none
  | .inl i :: .inr (.inr (.inr (.inl j))) :: S => if ((ka = 0 ∧ (X j).1 = 0) ∨ (ka = 1 ∧ (X j).1 = 3)) ∧ xin i (X j).2.1 ∧ (X j).2.1 < 2147483648 then xon (pc + 1) L (vI ((X j).2.2 i.toNat) :: S) h else none
  | _ => none
def x_ast (ka : Nat) : xF := fun pc L S h => match S with
  | .inl x :: .inl i :: .inr (.inr (.inl (some o))) :: S => match h.1 o with
    | some (.inr (.inl (k, n, f))) => if k = ka ∧ (ka = 0 ∨ (ka = 1 ∧ (x = 0 ∨ x = 1))) ∧ xin i n ∧ n < 2147483648 then xon (pc + 1) L S (xset h o (c_A k n (xup f i.toNat x))) else none
    | _ => none
  | .inr (.inl x) :: .inl i :: .inr (.inr (.inl (some o))) :: S => match h.1 o with
    | some (.inr (.inl (k, n, f))) => if k = ka ∧ ka = 2 ∧ xin i n ∧ n < 2147483648 then xon (pc + 1) L S (xset h o (c_A k n (xup f i.toNat x))) else none
    | _ => none
  | .inr (.inr (.inl (some v))) :: .inl i :: .inr (.inr (.inl (some o))) :: S => match h.1 o, h.1 v with
    | some (.inr (.inr (n, f))), some (.inl (cj, _)) => if ka = 4 ∧ cj = 8 ∧ xin i n ∧ n < 2147483648 then xon (pc + 1) L S (xset h o (c_R n (xup f i.toNat (some v)))) else none
    | _, _ => none
  | _ => none
def x_alen (X : xX) : xF := fun pc L S h => match S with
  | .inr (.inr (.inl (some o))) :: S => match h.1 o with
    | some (.inr (.inl (k, n, _))) => if k < 3 then xon (pc + 1) L (vI n :: S) h else none
    | _ => none
  | .inr (.inr (.inr (.inl j))) :: S => if (X j).1 = 0 ∨ (X j).1 = 3 then xon (pc + 1) L (vI (X j).2.1 :: S) h else none
  | _ => none
/-- newarray: kind 0, 1, 2 -/
def x_newa (ka : Nat) : xF := fun pc L S h => match S with
  | .inl n :: S => if 0 ≤ n ∧ n ≤ 1000000 then xon (pc + 2) L (vR h.2.1 :: S) (xnew h (c_A ka n.toNat (fun _ => 0)) n.toNat) else none
  | _ => none
def x_anew : xF := fun pc L S h => match S with
  | .inl n :: S => if 0 ≤ n ∧ n ≤ 1000000 then xon (pc + 3) L (vR h.2.1 :: S) (xnew h (c_R n.toNat (fun _ => none)) n.toNat) else none
  | _ => none
def x_new (ci : Nat) (fs : List xV) : xF := fun pc L S h => xon (pc + 3) L (vR h.2.1 :: S) (xnew h (c_O ci fs) fs.length)
/-- a call: method y of n arguments, the receiver counted; the receiver's class (0 is none: static) -/
def xrecv (ci : Nat) (h : xH) (v : xV) : Bool := match v with
  | .inr (.inr (.inl (some o))) => match h.1 o with
    | some (.inl (cj, _)) => cj == ci
    | _ => false
  | _ => false
def xrk (kind ci : Nat) (h : xH) (as : List xV) : Bool := match kind, as with
  | 0, _ => true
  | 1, _ => true
  | 2, v :: _ => xrecv ci h v
  | 3, .inr (.inr (.inl (some _))) :: _ => true
  | 4, .inr (.inr (.inr (.inr (.inl j)))) :: _ => decide (j < 14)
  | _, _ => false
def x_call (y n : Nat) (ok : xH → List xV → Bool) : xF := fun pc _ S h => if n ≤ S.length ∧ xwd (S.drop n) ≤ 8 ∧ ok h (S.take n).reverse = true then some (.inr (.inl (y, (S.take n).reverse, pc + 3, S.drop n))) else none
def x_ret (ty : Nat) : xF := fun _ _ S _ => match S with
  | [] => if ty = 4 then some (.inr (.inr none)) else none
  | [v] => if ty ≠ 3 ∧ xfit ty v = true then some (.inr (.inr (some v))) else none
  | _ => none
def x_sw (lo : Int) (ts : List Nat) (dflt : Nat) : xF := fun _ L S h => match S with
  | .inl x :: S => if xr x then (if x < lo ∨ lo + ts.length ≤ x then xon dflt L S h else xon (ts.getD (x - lo).toNat dflt) L S h) else none
  | _ => none
def xlook (ps : List (Int × Nat)) (dflt : Nat) (x : Int) : Nat := match ps with
  | [] => dflt
  | q :: ps => if x = q.1 then q.2 else xlook ps dflt x
def x_lsw (ps : List (Int × Nat)) (dflt : Nat) : xF := fun _ L S h => match S with
  | .inl x :: S => if xr x then xon (xlook ps dflt x) L S h else none
  | _ => none
def xcpy (f g : Nat → Int) (sp dp n : Nat) : Nat → Int := fun k => if dp ≤ k ∧ k < dp + n then f (sp + (k - dp)) else g k
def x_copy : xF := fun pc L S h => match S with
  | .inl n :: .inl dp :: .inr (.inr (.inl (some b))) :: .inl sp :: .inr (.inr (.inl (some a))) :: S => match h.1 a, h.1 b with
    | some (.inr (.inl (0, na, f))), some (.inr (.inl (0, nb, g))) => if 0 ≤ n ∧ 0 ≤ dp ∧ 0 ≤ sp ∧ sp + n ≤ na ∧ dp + n ≤ nb ∧ na < 2147483648 ∧ nb < 2147483648 ∧ xwd S ≤ 8 then xon (pc + 3) L S (xset h b (c_A 0 nb (xcpy f g sp.toNat dp.toNat n.toNat))) else none
    | _, _ => none
  | _ => none
/-- the clone of an outer array of ints -/
def x_clone (X : xX) : xF := fun pc L S h => match S with
  | .inr (.inr (.inr (.inl j))) :: S => if j = 3 ∧ (X 3).1 = 0 ∧ xwd S ≤ 8 then xon (pc + 3) L (vR h.2.1 :: S) (xnew h (c_A 0 7 (X 3).2.2) 7) else if j = 3 ∧ (X 3).1 = 7 ∧ xwd S ≤ 8 then xon (pc + 3) L (vR h.2.1 :: S) (xnew h (c_A 0 7 (fun _ => 0)) 7) else none
  | _ => none
/-- checkcast to int[] -/
def x_cast : xF := fun pc L S h => match S with
  | .inr (.inr (.inl (some o))) :: S => match h.1 o with
    | some (.inr (.inl (0, _, _))) => xon (pc + 3) L (vR o :: S) h
    | _ => none
  | _ => none
def xmin (x y : Int) : Int := if x ≤ y then x else y
def xmax (x y : Int) : Int := if y ≤ x then x else y
def xabs (x : Int) : Int := if 0 ≤ x then x else -x
def x_min : xF := fun pc L S h => match S with
  | .inl y :: .inl x :: S => if xr x ∧ xr y ∧ xwd S ≤ 8 then xon (pc + 3) L (vI (xmin x y) :: S) h else none
  | _ => none
def x_max : xF := fun pc L S h => match S with
  | .inl y :: .inl x :: S => if xr x ∧ xr y ∧ xwd S ≤ 8 then xon (pc + 3) L (vI (xmax x y) :: S) h else none
  | _ => none
def x_abs : xF := fun pc L S h => match S with
  | .inl x :: S => if xr x ∧ xwd S ≤ 8 then xon (pc + 3) L (vI (xabs x) :: S) h else none
  | _ => none
def x_ref (v : xV) (n : Nat) : xF := fun pc L S h => xon (pc + n) L (v :: S) h
/-- Object's own constructor: nothing -/
def x_oin : xF := fun pc L S h => match S with
  | .inr (.inr (.inl (some _))) :: S => if xwd S ≤ 8 then xon (pc + 3) L S h else none
  | _ => none
/-- a String's field -/
def x_gets (k : Nat) : xF := fun pc L S h => match S with
  | .inr (.inr (.inr (.inr (.inl j)))) :: S => if j < 14 then xon (pc + 3) L ((if k = 0 then vE (j + 5) else vI 0) :: S) h else none
  | _ => none
/-- runs: fuel, room for frames, method, pc, locals, stack, heap -/
def xq (P : Nat → Nat → Option xF) (ml : Nat → Nat) : Nat → Nat → Nat → Nat → List xV → List xV → xH → Option (Option xV × xH)
  | 0, _, _, _, _, _, _ => none
  | f + 1, d, m, pc, L, S, h => match P m pc with
    | none => none
    | some F => match F pc L S h with
      | none => none
      | some (.inl (pc2, L2, S2, h2)) => xq P ml f d m pc2 L2 S2 h2
      | some (.inr (.inl (y, as, pc2, S2))) => match d with
        | 0 => none
        | d2 + 1 => if (xlo as).length ≤ ml y then match xq P ml f d2 y 0 (xent (ml y) as) [] h with
          | none => none
          | some (r, h2) => xq P ml f (d2 + 1) m pc2 L (r.toList ++ S2) h2
          else none
      | some (.inr (.inr r)) => some (r, h)
theorem xq_mono {P : Nat → Nat → Option xF} {ml : Nat → Nat} : ∀ (f d m pc : Nat) (L S : List xV) (h : xH) (z : Option xV × xH), xq P ml f d m pc L S h = some z → xq P ml (f + 1) d m pc L S h = some z := by
  intro f
  induction f with
  | zero => intro d m pc L S h z hz; simp [xq] at hz
  | succ f ih =>
    intro d m pc L S h z hz
    rw [xq] at hz ⊢
    cases hP : P m pc with
    | none => rw [hP] at hz; cases hz
    | some F =>
      rw [hP] at hz
      dsimp only at hz ⊢
      cases hF : F pc L S h with
      | none => rw [hF] at hz; cases hz
      | some q =>
        rw [hF] at hz
        match q, hF, hz with
        | .inl (pc2, L2, S2, h2), hF, hz => exact ih _ _ _ _ _ _ _ hz
        | .inr (.inr r), hF, hz => exact hz
        | .inr (.inl (y, as, pc2, S2)), hF, hz =>
          cases d with
          | zero => cases hz
          | succ d2 =>
            dsimp only at hz ⊢
            by_cases hl : (xlo as).length ≤ ml y
            · rw [if_pos hl] at hz ⊢
              cases hc : xq P ml f d2 y 0 (xent (ml y) as) [] h with
              | none => rw [hc] at hz; cases hz
              | some w =>
                rw [hc] at hz
                rw [ih _ _ _ _ _ _ _ hc]
                obtain ⟨r, h2⟩ := w
                exact ih _ _ _ _ _ _ _ hz
            · rw [if_neg hl] at hz
              cases hz
theorem xq_le {P : Nat → Nat → Option xF} {ml : Nat → Nat} {f g d m pc : Nat} {L S : List xV} {h : xH} {z : Option xV × xH} (hfg : f ≤ g) (hz : xq P ml f d m pc L S h = some z) : xq P ml g d m pc L S h = some z := by
  induction g with
  | zero => have : f = 0 := by omega
            subst this; exact hz
  | succ g ih =>
    by_cases hg : f = g + 1
    · rw [← hg]; exact hz
    · exact xq_mono _ _ _ _ _ _ _ _ (ih (by omega))
