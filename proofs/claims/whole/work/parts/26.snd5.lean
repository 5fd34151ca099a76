/-! SOUNDNESS: new cells, switches, copies -/
theorem xI_neg {n : Int} (h : 0 ≤ n) (h2 : n ≤ 1000000) : ¬ Int32.ofInt n < 0 := by
  rw [xI_0, xI_lt (by omega) xr0]
  omega
theorem xI_cl {n : Int} (h : 0 ≤ n) (h2 : n ≤ 1000000) : (Int32.ofInt n).toNatClampNeg = n.toNat := Int32.toNatClampNeg_ofInt_of_le (by omega) (by omega)
section
variable {mi pc : Nat}
theorem x_newa_nr {ka : Nat} : ∀ (X : xX) L S h q, x_newa ka pc L S h ≠ some (.inr q) := by
  intro X L S h q e
  unfold x_newa at e
  repeat' split at e
  all_goals first | exact xon_nr e | cases e
theorem snd_newa {ka t0 : Nat} {at_ : ArrayType} {ty : FieldType} {z : Nat → vp_A} (hd : decode (x_cc mi) pc = .ok (.newarray at_, 2)) (hty : Op.newarray.typeOf at_ = ty) (hw : Cond.arrayClass ty ∈ x_tbl) (ht : ∀ G : xG, (xtys G)[t0]? = some (G.ca ka, ty)) (hp : ∀ (U : State) (cA : ClassId), va_RA U cA ty = (U.vm.findClass ("[" ++ ty.toString) = some cA)) (ha : ∀ (cA : ClassId) (n : Nat), vp_cell cA (z n) = arrV cA n (fun _ => defaultValue ty)) (hz : ∀ n, (z n).1 = n) (hce : ∀ (G : xG) (n : Nat), xce G (c_A ka n (fun _ => 0)) = .inl (G.ca ka, z n)) (hcb : componentBytes ty ≤ 8) : xSnd mi pc (fun _ => x_newa ka) := by
  refine xSnd.on x_newa_nr ?_
  intro G p l e R s m args below meth c Q n0 z0 C L S h pc' L' S' h' hF
  unfold x_newa at hF
  dsimp only at hF
  split at hF
  · rename_i n S0
    split at hF
    · rename_i hq
      obtain ⟨rfl, rfl, rfl, rfl⟩ := xon_inj hF
      refine ⟨by show h.2.1 ≤ h.2.1 + 1; omega, by show h.2.2 ≤ h.2.2 + n.toNat; omega, fun r1 r2 _ _ kW H locs ls cells slots hR hL hS h1 h2 => ?_⟩
      have r1 : h.2.1 + 1 ≤ R.cells + n0 := r1
      have r2 : h.2.2 + n.toNat ≤ R.slots + z0 := r2
      have hK := C.2.2.2.2.2.2.2.2.1
      refine va_newa (a0 := z n.toNat) C.1 C.2.1 (by rw [hty]; exact C.2.2.2.2.2.1 _ hw) hty hK hR.2.1 (xws_D G h) hS (fun q hq => by have := C.2.2.2.2.2.2.2.2.2.2; show G.N ≤ q; omega) (fun cA => ha cA _) (xI_neg hq.1 hq.2) (xI_cl hq.1 hq.2) (Nat.le_trans (Nat.mul_le_mul (show n.toNat ≤ 1000000 by omega) hcb) (by decide)) (by omega) (by omega) hd (fun q cA H1 hK1 hP1 hD1 hS1 => ?_)
      have hcA : cA = G.ca ka := by
        have e1 := (hK.2 t0 _ (ht G)).2
        have e2 := (hK1.2 (xtys G).length (cA, ty) (by simp)).2
        rw [hp] at e1 e2
        exact Option.some.inj (e2.symm.trans e1)
      subst hcA
      refine W.sized (fun hz1 => ?_)
      obtain ⟨hqe, hR1⟩ := xRel_new (c := c_A ka n.toNat (fun _ => 0)) (sz := n.toNat) hR hP1 hD1 hz1 C.2.2.2.2.2.2.2.2.2.2 h1 (hce G n.toNat).symm
      rw [hqe]
      exact kW H1 locs ls (cells + 1) (slots + n.toNat) hR1 hL hS1 (by show cells + 1 + n0 = h.2.1 + 1; omega) (by show slots + n.toNat + z0 = h.2.2 + n.toNat; omega)
    · cases hF
  · cases hF
theorem snd_newa_i (hd : decode (x_cc mi) pc = .ok (.newarray .int, 2)) (hw : Cond.arrayClass .int ∈ x_tbl) : xSnd mi pc (fun _ => x_newa 0) :=
  snd_newa (t0 := 0) (z := fun n => (n, .inl (fun _ => 0))) hd rfl hw (fun G => rfl) (fun U cA => rfl) (fun cA n => rfl) (fun n => rfl) (fun G n => rfl) (by decide)
theorem snd_newa_z (hd : decode (x_cc mi) pc = .ok (.newarray .boolean, 2)) (hw : Cond.arrayClass .boolean ∈ x_tbl) : xSnd mi pc (fun _ => x_newa 1) :=
  snd_newa (t0 := 1) (z := fun n => (n, .inl (fun _ => 0))) hd rfl hw (fun G => rfl) (fun U cA => rfl) (fun cA n => rfl) (fun n => rfl) (fun G n => rfl) (by decide)
theorem snd_newa_l (hd : decode (x_cc mi) pc = .ok (.newarray .long, 2)) (hw : Cond.arrayClass .long ∈ x_tbl) : xSnd mi pc (fun _ => x_newa 2) :=
  snd_newa (t0 := 2) (z := fun n => (n, .inr (.inl (fun _ => 0)))) hd rfl hw (fun G => rfl) (fun U cA => rfl) (fun cA n => rfl) (fun n => rfl) (fun G n => rfl) (by decide)
theorem x_anew_nr : ∀ (X : xX) L S h q, x_anew pc L S h ≠ some (.inr q) := by
  intro X L S h q e
  unfold x_anew at e
  repeat' split at e
  all_goals first | exact xon_nr e | cases e
theorem snd_anew {ix : Nat} (hd : decode (x_cc mi) pc = .ok (.anewarray ix, 3)) (hw : Cond.classLink (x_on (x_ow mi)) ix "FilmPrinter$State" ∈ x_tbl) : xSnd mi pc (fun _ => x_anew) := by
  refine xSnd.on x_anew_nr ?_
  intro G p l e R s m args below meth c Q n0 z0 C L S h pc' L' S' h' hF
  unfold x_anew at hF
  dsimp only at hF
  split at hF
  · rename_i n S0
    split at hF
    · rename_i hq
      obtain ⟨rfl, rfl, rfl, rfl⟩ := xon_inj hF
      refine ⟨by show h.2.1 ≤ h.2.1 + 1; omega, by show h.2.2 ≤ h.2.2 + n.toNat; omega, fun r1 r2 _ _ kW H locs ls cells slots hR hL hS h1 h2 => ?_⟩
      have r1 : h.2.1 + 1 ≤ R.cells + n0 := r1
      have r2 : h.2.2 + n.toNat ≤ R.slots + z0 := r2
      have hK := C.2.2.2.2.2.2.2.2.1
      refine va_newq C.1 C.2.1 C.2.2.2.2.1 (C.2.2.2.2.2.1 _ hw) C.2.2.2.2.2.2.2.2.2.1.2.2.2.2.2.2.2.2.2 hK hR.2.1 (xws_D G h) hS (fun q hq => by have := C.2.2.2.2.2.2.2.2.2.2; show G.N ≤ q; omega) (xI_neg hq.1 hq.2) (xI_cl hq.1 hq.2) (by omega) (by omega) (by omega) hd (fun q cA H1 hK1 hP1 hD1 hS1 => ?_)
      have hcA : cA = G.ca 4 := by
        obtain ⟨_, _, _, _, _, e1⟩ := (hK.2 3 _ (show (xtys G)[3]? = some (G.ca 4, .object "FilmPrinter$State") from rfl)).2
        obtain ⟨_, _, _, _, _, e2⟩ := (hK1.2 (xtys G).length (cA, .object "FilmPrinter$State") (by simp)).2
        exact Option.some.inj (e2.symm.trans e1)
      subst hcA
      refine W.sized (fun hz1 => ?_)
      obtain ⟨hqe, hR1⟩ := xRel_new (c := c_R n.toNat (fun _ => none)) (sz := n.toNat) hR hP1 hD1 hz1 C.2.2.2.2.2.2.2.2.2.2 h1 rfl
      rw [hqe]
      exact kW H1 locs ls (cells + 1) (slots + n.toNat) hR1 hL hS1 (by show cells + 1 + n0 = h.2.1 + 1; omega) (by show slots + n.toNat + z0 = h.2.2 + n.toNat; omega)
    · cases hF
  · cases hF
/-- a field's first value -/
def xdf (t : FieldType) : xV := match t with
  | .long => vL 0
  | .object _ => vN
  | .array _ => vN
  | _ => vI 0
def xdfok (t : FieldType) : Bool := match t with
  | .float => false
  | .double => false
  | _ => true
theorem xdf_ok {G : xG} {t : FieldType} (h : xdfok t = true) : defaultValue t = xc G (xdf t) := by
  cases t <;> first | rfl | cases h
theorem snd_new {ci ix : Nat} {q : vw_C} {fs : List xV} {ty : Nat → FieldType} (hd : decode (x_cc mi) pc = .ok (.new ix, 3)) (hc : x_cls[ci]? = some q) (hty : ∀ k, k < q.2.2 → parseFieldDescriptor (q.2.1 k).2.2.1 = some (ty k)) (hl : fs.length = q.2.2) (hfs : ∀ k, k < q.2.2 → xdfok (ty k) = true ∧ fs[k]? = some (xdf (ty k)))
    (hw1 : Cond.classLink (x_on (x_ow mi)) ix q.1 ∈ x_tbl) (hw2 : Cond.instantiable q.1 q.2.2 ∈ x_tbl) (hw3 : Cond.initialized q.1 ∈ x_tbl) : xSnd mi pc (fun _ => x_new ci fs) := by
  refine xSnd.on (fun X L S h q => xon_nr) ?_
  intro G p l e R s m args below meth c Q n0 z0 C L S h pc' L' S' h' hF
  obtain ⟨rfl, rfl, rfl, rfl⟩ := xon_inj hF
  refine ⟨by show h.2.1 ≤ h.2.1 + 1; omega, by show h.2.2 ≤ h.2.2 + fs.length; omega, fun r1 r2 _ _ kW H locs ls cells slots hR hL hS h1 h2 => ?_⟩
  have r1 : h.2.1 + 1 ≤ R.cells + n0 := r1
  have r2 : h.2.2 + fs.length ≤ R.slots + z0 := r2
  have hK := C.2.2.2.2.2.2.2.2.1
  refine va_new (fs := fs.map (xc G)) C.1 C.2.1 C.2.2.2.2.2.1 (x_cls_ok _ _ hc).1 ty hty C.2.2.2.2.1 (C.2.2.2.2.2.1 _ hw1) (C.2.2.2.2.2.1 _ hw2) (C.2.2.2.2.2.1 _ hw3) hK hR.2.1 (xws_D G h) hS (fun q hq => by have := C.2.2.2.2.2.2.2.2.2.2; show G.N ≤ q; omega) hc (fun j hj => ?_) (by omega) (by omega) hd (fun q1 H1 hP1 hD1 hS1 => ?_)
  · obtain ⟨f1, f2⟩ := hfs j hj
    rw [xdf_ok (G := G) f1]
    simp [vp_V, f2]
  · refine W.sized (fun hz1 => ?_)
    obtain ⟨hqe, hR1⟩ := xRel_new (c := c_O ci fs) (sz := fs.length) hR hP1 hD1 hz1 C.2.2.2.2.2.2.2.2.2.2 h1 rfl
    rw [hqe]
    exact kW H1 locs ls (cells + 1) (slots + q.2.2) hR1 hL hS1 (by show cells + 1 + n0 = h.2.1 + 1; omega) (by show slots + q.2.2 + z0 = h.2.2 + fs.length; omega)
theorem x_sw_nr {lo : Int} {ts : List Nat} {df : Nat} : ∀ (X : xX) L S h q, x_sw lo ts df pc L S h ≠ some (.inr q) := by
  intro X L S h q e
  unfold x_sw at e
  repeat' split at e
  all_goals first | exact xon_nr e | cases e
theorem snd_sw {lo hi : Int} {ts : List Nat} {df len : Nat} (hd : decode (x_cc mi) pc = .ok (.tableswitch ((df : Int) - (pc : Int)) lo hi (ts.map (fun t : Nat => (t : Int) - (pc : Int))).toArray, len)) (hh : hi = lo + ts.length - 1) : xSnd mi pc (fun _ => x_sw lo ts df) := by
  refine xSnd.on x_sw_nr (xSA.same ?_)
  intro G p l e R s m args below meth c Q n0 C L S h pc' L' S' h' hF
  unfold x_sw at hF
  split at hF
  · rename_i x S0
    split at hF
    · rename_i hx
      have ex : (Int32.ofInt x).toInt = x := Int32.toInt_ofInt_of_le (by omega) (by omega)
      split at hF
      · rename_i hq
        obtain ⟨rfl, rfl, rfl, rfl⟩ := xon_inj hF
        exact ⟨rfl, fun _ _ H locs ls cells slots hR hL hS k => lv_tableOut C.1 C.2.1 hd (by rw [ex, hh]; omega) (by omega) (k ls hL)⟩
      · rename_i hq
        obtain ⟨rfl, rfl, rfl, rfl⟩ := xon_inj hF
        have hlt : (x - lo).toNat < ts.length := by omega
        refine ⟨rfl, fun _ _ H locs ls cells slots hR hL hS k => lv_tableIn (off := ((ts.getD (x - lo).toNat df : Nat) : Int) - (pc : Int)) C.1 C.2.1 hd (by rw [ex]; omega) (by rw [ex, hh]; omega) ?_ (by omega) (k ls hL)⟩
        rw [ex]
        simp [hlt, List.getD]
    · cases hF
  · cases hF
theorem xlook_off (ps : List (Int × Nat)) (df : Nat) (x : Int) (pc : Nat) : Op.lookupswitch.offset (ps.map (fun q => (q.1, (q.2 : Int) - (pc : Int)))) ((df : Int) - (pc : Int)) x = ((xlook ps df x : Nat) : Int) - (pc : Int) := by
  induction ps with
  | nil => rfl
  | cons q ps ih =>
    simp only [List.map_cons, xlook]
    unfold Op.lookupswitch.offset
    by_cases h : x = q.1
    · simp [h]
    · simp only [if_neg h]
      first
        | (rw [if_neg (by simpa using h)]; exact ih)
        | (rw [if_neg (by simpa using (fun z => h z.symm))]; exact ih)
        | (simp [h]; exact ih)
theorem x_lsw_nr {ps : List (Int × Nat)} {df : Nat} : ∀ (X : xX) L S h q, x_lsw ps df pc L S h ≠ some (.inr q) := by
  intro X L S h q e
  unfold x_lsw at e
  repeat' split at e
  all_goals first | exact xon_nr e | cases e
theorem snd_lsw {ps : List (Int × Nat)} {df len : Nat} (hd : decode (x_cc mi) pc = .ok (.lookupswitch ((df : Int) - (pc : Int)) (ps.map (fun q => (q.1, (q.2 : Int) - (pc : Int)))).toArray, len)) (hp : (((ps.map (fun q => (q.1, (q.2 : Int) - (pc : Int)))).zip ((ps.map (fun q => (q.1, (q.2 : Int) - (pc : Int)))).drop 1)).all (fun (a, next) => a.1 < next.1)) = true) : xSnd mi pc (fun _ => x_lsw ps df) := by
  refine xSnd.on x_lsw_nr (xSA.same ?_)
  intro G p l e R s m args below meth c Q n0 C L S h pc' L' S' h' hF
  unfold x_lsw at hF
  split at hF
  · rename_i x S0
    split at hF
    · rename_i hx
      have ex : (Int32.ofInt x).toInt = x := Int32.toInt_ofInt_of_le (by omega) (by omega)
      obtain ⟨rfl, rfl, rfl, rfl⟩ := xon_inj hF
      exact ⟨rfl, fun _ _ H locs ls cells slots hR hL hS k => lv_lookup (off := ((xlook ps df x : Nat) : Int) - (pc : Int)) C.1 C.2.1 hd hp (by rw [ex]; exact xlook_off ps df x pc) (by omega) (k ls hL)⟩
    · cases hF
  · cases hF
end
