/-! SOUNDNESS: copies, texts, statics, the library's own -/
theorem xcpyE (f g : Nat → Int) (sp dp n : Nat) : (fun j => Int32.ofInt (xcpy f g sp dp n j)) = va_cpy (fun j => Int32.ofInt (f j)) (fun j => Int32.ofInt (g j)) sp dp n := by
  funext j
  by_cases hj : dp ≤ j ∧ j < dp + n <;> simp [xcpy, va_cpy, hj]
theorem xI_cl2 {n : Int} (h : 0 ≤ n) (h2 : n < 2147483648) : (Int32.ofInt n).toNatClampNeg = n.toNat := Int32.toNatClampNeg_ofInt_of_le (by omega) (by omega)
theorem xI_neg2 {n : Int} (h : 0 ≤ n) (h2 : n < 2147483648) : ¬ Int32.ofInt n < 0 := by
  rw [xI_0, xI_lt (by omega) xr0]
  omega
section
variable {mi pc : Nat}
theorem x_copy_nr : ∀ (X : xX) L S h q, x_copy pc L S h ≠ some (.inr q) := by
  intro X L S h q e
  unfold x_copy at e
  repeat' split at e
  all_goals first | exact xon_nr e | cases e
theorem snd_copy {ix : Nat} (hd : decode (x_cc mi) pc = .ok (.invokestatic ix, 3)) (hw1 : Cond.methodLink (x_on (x_ow mi)) ix arraycopyName ∈ x_tbl) (hw2 : Cond.native arraycopyName ∈ x_tbl) (hw3 : Cond.static arraycopyName ∈ x_tbl) (hw4 : Cond.initialized "java/lang/System" ∈ x_tbl) : xSnd mi pc (fun _ => x_copy) := by
  refine xSnd.on x_copy_nr ?_
  intro G p l e R s m args below meth c Q n0 z0 C L S h pc' L' S' h' hF
  unfold x_copy at hF
  dsimp only at hF
  split at hF
  · rename_i n dp b sp a S0
    split at hF
    · rename_i na f nb g ha hb
      split at hF
      · rename_i hq
        obtain ⟨q1, q2, q3, q4, q5, q6, q7, q8⟩ := hq
        obtain ⟨rfl, rfl, rfl, rfl⟩ := xon_inj hF
        refine ⟨Nat.le_refl _, Nat.le_refl _, fun _ _ r1 r2 kW H locs ls cells slots hR hL hS h1 h2 => ?_⟩
        have e1 := xI_cl2 q1 (by omega)
        have e2 := xI_cl2 q2 (by omega)
        have e3 := xI_cl2 q3 (by omega)
        have hT := C.2.2.2.2.2.1
        refine va_copyi (ty := .int) C.1 C.2.1 (by rw [C.2.2.1, hL.1.1]) C.2.2.2.2.1 (hT _ hw1) (hT _ hw2) (hT _ hw3) (hT _ hw4) C.2.2.2.2.2.2.2.2.1 hR.2.1 (xws_D G h) hS a b 0 0 (hR.at ha) (hR.at hb) rfl rfl rfl (xI_neg2 q3 (by omega)) (xI_neg2 q2 (by omega)) (xI_neg2 q1 (by omega)) (by rw [e3, e1]; omega) (by rw [e2, e1]; omega) (fun i _ => rfl) r1 ?_ hd (fun H1 locs1 hP1 _ hS1 => ?_)
        · rw [xc_wd]
          have : nativeFrameWords "java/lang/System" "arraycopy" 5 + 11 ≤ 56 := by decide +kernel
          omega
        · rw [e1, e2, e3] at hP1
          refine W.sized (fun hz => ?_)
          refine kW H1 locs1 ls cells slots (xRel_set hR hb ?_ hz C.2.2.2.2.2.2.2.2.2.2 h1 hS1.1) hL hS1 h1 h2
          show va_P G.D x_cls ((xws G h).set b (G.N + b, .inl (G.ca 0, nb, .inl (fun j => Int32.ofInt (xcpy f g sp.toNat dp.toNat n.toNat j))))) H1
          rw [xcpyE]
          exact hP1
      · cases hF
    · cases hF
  · cases hF
theorem x_min_nr : ∀ (X : xX) L S h q, x_min pc L S h ≠ some (.inr q) := by
  intro X L S h q e
  unfold x_min at e
  repeat' split at e
  all_goals first | exact xon_nr e | cases e
theorem x_max_nr : ∀ (X : xX) L S h q, x_max pc L S h ≠ some (.inr q) := by
  intro X L S h q e
  unfold x_max at e
  repeat' split at e
  all_goals first | exact xon_nr e | cases e
theorem x_abs_nr : ∀ (X : xX) L S h q, x_abs pc L S h ≠ some (.inr q) := by
  intro X L S h q e
  unfold x_abs at e
  repeat' split at e
  all_goals first | exact xon_nr e | cases e
theorem snd_min {ix : Nat} (hd : decode (x_cc mi) pc = .ok (.invokestatic ix, 3)) (hw1 : Cond.methodLink (x_on (x_ow mi)) ix Lib.Math.min.name ∈ x_tbl) (hw2 : Cond.static Lib.Math.min.name ∈ x_tbl) (hw3 : Cond.initialized "java/lang/Math" ∈ x_tbl) (hw4 : Cond.code Lib.Math.min.name Lib.Math.min.code 2 (some .int) ∈ x_tbl) : xSnd mi pc (fun _ => x_min) := by
  refine xSnd.on x_min_nr ?_
  intro G p l e R s m args below meth c Q n0 z0 C L S h pc' L' S' h' hF
  unfold x_min at hF
  dsimp only at hF
  split at hF
  · split at hF
    · rename_i y x S0 hq
      obtain ⟨rfl, rfl, rfl, rfl⟩ := xon_inj hF
      refine ⟨Nat.le_refl _, Nat.le_refl _, fun c1 c2 r1 r2 kW H locs ls cells slots hR hL hS h1 h2 => ?_⟩
      have hT := C.2.2.2.2.2.1
      refine va_mmin C.1 C.2.1 (by rw [C.2.2.1, hL.1.1]) C.2.2.2.2.1 (hT _ hw1) (hT _ hw2) (hT _ hw3) (hT _ hw4) r1 (by rw [xc_wd]; omega) (by omega) (by omega) hd ?_
      have e1 : (if Int32.ofInt y < Int32.ofInt x then Int32.ofInt y else Int32.ofInt x) = Int32.ofInt (xmin x y) := by
        unfold xmin
        by_cases hc : x ≤ y
        · rw [if_pos hc, if_neg (fun z => by have := (xI_lt hq.2.1 hq.1).mp z; omega)]
        · rw [if_neg hc, if_pos ((xI_lt hq.2.1 hq.1).mpr (by omega))]
      rw [e1]
      exact kW H locs ls cells slots hR hL hS h1 h2
    · cases hF
  · cases hF
theorem snd_max {ix : Nat} (hd : decode (x_cc mi) pc = .ok (.invokestatic ix, 3)) (hw1 : Cond.methodLink (x_on (x_ow mi)) ix Lib.Math.max.name ∈ x_tbl) (hw2 : Cond.static Lib.Math.max.name ∈ x_tbl) (hw3 : Cond.initialized "java/lang/Math" ∈ x_tbl) (hw4 : Cond.code Lib.Math.max.name Lib.Math.max.code 2 (some .int) ∈ x_tbl) : xSnd mi pc (fun _ => x_max) := by
  refine xSnd.on x_max_nr ?_
  intro G p l e R s m args below meth c Q n0 z0 C L S h pc' L' S' h' hF
  unfold x_max at hF
  dsimp only at hF
  split at hF
  · split at hF
    · rename_i y x S0 hq
      obtain ⟨rfl, rfl, rfl, rfl⟩ := xon_inj hF
      refine ⟨Nat.le_refl _, Nat.le_refl _, fun c1 c2 r1 r2 kW H locs ls cells slots hR hL hS h1 h2 => ?_⟩
      have hT := C.2.2.2.2.2.1
      refine va_mmax C.1 C.2.1 (by rw [C.2.2.1, hL.1.1]) C.2.2.2.2.1 (hT _ hw1) (hT _ hw2) (hT _ hw3) (hT _ hw4) r1 (by rw [xc_wd]; omega) (by omega) (by omega) hd ?_
      have e1 : (if Int32.ofInt x < Int32.ofInt y then Int32.ofInt y else Int32.ofInt x) = Int32.ofInt (xmax x y) := by
        unfold xmax
        by_cases hc : y ≤ x
        · rw [if_pos hc, if_neg (fun z => by have := (xI_lt hq.1 hq.2.1).mp z; omega)]
        · rw [if_neg hc, if_pos ((xI_lt hq.1 hq.2.1).mpr (by omega))]
      rw [e1]
      exact kW H locs ls cells slots hR hL hS h1 h2
    · cases hF
  · cases hF
theorem snd_abs {ix : Nat} (hd : decode (x_cc mi) pc = .ok (.invokestatic ix, 3)) (hw1 : Cond.methodLink (x_on (x_ow mi)) ix Lib.Math.abs.name ∈ x_tbl) (hw2 : Cond.static Lib.Math.abs.name ∈ x_tbl) (hw3 : Cond.initialized "java/lang/Math" ∈ x_tbl) (hw4 : Cond.code Lib.Math.abs.name Lib.Math.abs.code 1 (some .int) ∈ x_tbl) : xSnd mi pc (fun _ => x_abs) := by
  refine xSnd.on x_abs_nr ?_
  intro G p l e R s m args below meth c Q n0 z0 C L S h pc' L' S' h' hF
  unfold x_abs at hF
  dsimp only at hF
  split at hF
  · split at hF
    · rename_i x S0 hq
      obtain ⟨rfl, rfl, rfl, rfl⟩ := xon_inj hF
      refine ⟨Nat.le_refl _, Nat.le_refl _, fun c1 c2 r1 r2 kW H locs ls cells slots hR hL hS h1 h2 => ?_⟩
      have hT := C.2.2.2.2.2.1
      refine va_mabs C.1 C.2.1 (by rw [C.2.2.1, hL.1.1]) C.2.2.2.2.1 (hT _ hw1) (hT _ hw2) (hT _ hw3) (hT _ hw4) r1 (by rw [xc_wd]; omega) (by omega) (by omega) hd ?_
      have e1 : (if 0 ≤ Int32.ofInt x then Int32.ofInt x else 0 - Int32.ofInt x) = Int32.ofInt (xabs x) := by
        unfold xabs
        by_cases hc : 0 ≤ x
        · rw [if_pos hc, if_pos (by rw [xI_0, xI_le xr0 hq.1]; exact hc)]
        · rw [if_neg hc, if_neg (fun z => hc (by rw [xI_0, xI_le xr0 hq.1] at z; exact z)), Int32.ofInt_neg]
          exact Int32.zero_sub _
      rw [e1]
      exact kW H locs ls cells slots hR hL hS h1 h2
    · cases hF
  · cases hF
theorem snd_ldcS {j : Nat} (hj : j < 14) (hd : decode (x_cc mi) pc = .ok (.ldc (x_sidx j), 2)) (ho : x_on (x_ow mi) = "FilmPrinter$Reader") : xSnd mi pc (fun _ => x_ref (vS j) 2) := by
  refine xSnd.on (fun X L S h q => xon_nr) (xSA.same ?_)
  intro G p l e R s m args below meth c Q n0 C L S h pc' L' S' h' hF
  obtain ⟨rfl, rfl, rfl, rfl⟩ := xon_inj hF
  refine ⟨rfl, fun _ _ H locs ls cells slots hR hL hS k => ?_⟩
  have hown := C.2.2.2.2.1
  rw [ho] at hown
  exact va_ldcS C.1 C.2.1 hown (C.2.2.2.2.2.2.2.2.2.1.2.2.2.2.2.2.2.1 j hj).2.2.2 hd (k ls hL)
theorem x_oin_nr : ∀ (X : xX) L S h q, x_oin pc L S h ≠ some (.inr q) := by
  intro X L S h q e
  unfold x_oin at e
  repeat' split at e
  all_goals first | exact xon_nr e | cases e
theorem snd_oin {ix : Nat} (hd : decode (x_cc mi) pc = .ok (.invokespecial ix, 3)) (hw1 : Cond.methodLink (x_on (x_ow mi)) ix Lib.objectInit ∈ x_tbl) (hw2 : Cond.instanceMethod Lib.objectInit ∈ x_tbl) (hw3 : Cond.code Lib.objectInit ⟨#[0xb1]⟩ 1 none ∈ x_tbl) : xSnd mi pc (fun _ => x_oin) := by
  refine xSnd.on x_oin_nr (xSA.same ?_)
  intro G p l e R s m args below meth c Q n0 C L S h pc' L' S' h' hF
  unfold x_oin at hF
  split at hF
  · split at hF
    · rename_i hq
      obtain ⟨rfl, rfl, rfl, rfl⟩ := xon_inj hF
      refine ⟨rfl, fun r1 r2 H locs ls cells slots hR hL hS k => ?_⟩
      have hT := C.2.2.2.2.2.1
      refine W.objInit C.1 C.2.1 C.2.2.2.2.1 (hT _ hw1) (hT _ hw2) (hT _ hw3) rfl (by show ls.size = _; rw [C.2.2.1, hL.1.1]) rfl hd r1 ?_ (k ls hL)
      rw [xc_wd]
      show 2 * 0 + _ + 12 ≤ _
      omega
    · cases hF
  · cases hF
theorem x_gets_nr {k : Nat} : ∀ (X : xX) L S h q, x_gets k pc L S h ≠ some (.inr q) := by
  intro X L S h q e
  unfold x_gets at e
  repeat' split at e
  all_goals first | exact xon_nr e | cases e
theorem snd_gets0 {ix : Nat} (hd : decode (x_cc mi) pc = .ok (.getfield ix, 3)) (hw : Cond.fieldLink (x_on (x_ow mi)) ix "java/lang/String" "value" "[B" ∈ x_tbl) : xSnd mi pc (fun _ => x_gets 0) := by
  refine xSnd.on x_gets_nr (xSA.same ?_)
  intro G p l e R s m args below meth c Q n0 C L S h pc' L' S' h' hF
  unfold x_gets at hF
  split at hF
  · rename_i j S0
    split at hF
    · rename_i hj
      obtain ⟨rfl, rfl, rfl, rfl⟩ := xon_inj hF
      exact ⟨rfl, fun _ _ H locs ls cells slots hR hL hS k => vk_getf C.1 C.2.1 (C.2.2.2.2.2.2.2.2.2.1.2.2.2.2.2.2.2.1 j hj).2.1 hS C.2.2.2.2.1 (C.2.2.2.2.2.1 _ hw) (fun x h => h) hd (k ls hL)⟩
    · cases hF
  · cases hF
theorem snd_gets1 {ix : Nat} (hd : decode (x_cc mi) pc = .ok (.getfield ix, 3)) (hw : Cond.fieldLink (x_on (x_ow mi)) ix "java/lang/String" "coder" "B" ∈ x_tbl) : xSnd mi pc (fun _ => x_gets 1) := by
  refine xSnd.on x_gets_nr (xSA.same ?_)
  intro G p l e R s m args below meth c Q n0 C L S h pc' L' S' h' hF
  unfold x_gets at hF
  split at hF
  · rename_i j S0
    split at hF
    · rename_i hj
      obtain ⟨rfl, rfl, rfl, rfl⟩ := xon_inj hF
      exact ⟨rfl, fun _ _ H locs ls cells slots hR hL hS k => vk_getf C.1 C.2.1 (C.2.2.2.2.2.2.2.2.2.1.2.2.2.2.2.2.2.1 j hj).2.2.1 hS C.2.2.2.2.1 (C.2.2.2.2.2.1 _ hw) (fun x h => h) hd (k ls hL)⟩
    · cases hF
  · cases hF
theorem snd_stat {v : xV} {Cn n d : String} {ix : Nat} (hd : decode (x_cc mi) pc = .ok (.getstatic ix, 3)) (hw : Cond.fieldLink (x_on (x_ow mi)) ix Cn n d ∈ x_tbl) (hz : ∀ (G : xG) (U : State) (H : Heap), xE G U H → va_Z Cn n d (xc G v) (xA G) U H) : xSnd mi pc (fun _ => x_ref v 3) := by
  refine xSnd.on (fun X L S h q => xon_nr) (xSA.same ?_)
  intro G p l e R s m args below meth c Q n0 C L S h pc' L' S' h' hF
  obtain ⟨rfl, rfl, rfl, rfl⟩ := xon_inj hF
  exact ⟨rfl, fun _ _ H locs ls cells slots hR hL hS k => va_gets C.1 C.2.1 (hz G s s.heap C.2.2.2.2.2.2.2.2.2.1) hS C.2.2.2.2.1 (C.2.2.2.2.2.1 _ hw) (fun x h => h) hd (k ls hL)⟩
theorem snd_stat0 {ix : Nat} (hd : decode (x_cc mi) pc = .ok (.getstatic ix, 3)) (hw : Cond.fieldLink (x_on (x_ow mi)) ix "FilmPrinter" "LOWEST_TERM" "[I" ∈ x_tbl) : xSnd mi pc (fun _ => x_ref (vE 1) 3) := snd_stat hd hw (fun G U H h => h.2.2.1)
theorem snd_stat1 {ix : Nat} (hd : decode (x_cc mi) pc = .ok (.getstatic ix, 3)) (hw : Cond.fieldLink (x_on (x_ow mi)) ix "FilmPrinter" "HIGHEST_TERM" "[I" ∈ x_tbl) : xSnd mi pc (fun _ => x_ref (vE 2) 3) := snd_stat hd hw (fun G U H h => h.2.2.2.1)
theorem snd_stat3 {ix : Nat} (hd : decode (x_cc mi) pc = .ok (.getstatic ix, 3)) (hw : Cond.fieldLink (x_on (x_ow mi)) ix "java/lang/String" "COMPACT_STRINGS" "Z" ∈ x_tbl) : xSnd mi pc (fun _ => x_ref (vI 1) 3) := snd_stat hd hw (fun G U H h => h.2.2.2.2.2.1)
theorem snd_stat4 {ix : Nat} (hd : decode (x_cc mi) pc = .ok (.getstatic ix, 3)) (hw : Cond.fieldLink (x_on (x_ow mi)) ix "jdk/internal/util/Preconditions" "SIOOBE_FORMATTER" "Ljava/util/function/BiFunction;" ∈ x_tbl) : xSnd mi pc (fun _ => x_ref (vE 4) 3) := snd_stat hd hw (fun G U H h => h.2.2.2.2.2.2.1)
theorem snd_stat2 (hd : decode (x_cc mi) pc = .ok (.getstatic 21, 3)) (ho : x_on (x_ow mi) = "FilmPrinter$State") : xSnd mi pc (fun _ => x_ref (vE 3) 3) := by
  refine xSnd.on (fun X L S h q => xon_nr) (xSA.same ?_)
  intro G p l e R s m args below meth c Q n0 C L S h pc' L' S' h' hF
  obtain ⟨rfl, rfl, rfl, rfl⟩ := xon_inj hF
  refine ⟨rfl, fun _ _ H locs ls cells slots hR hL hS k => ?_⟩
  have hown := C.2.2.2.2.1
  rw [ho] at hown
  have hE := C.2.2.2.2.2.2.2.2.2.1
  exact va_getsN C.1 C.2.1 hE.2.2.2.2.1 hS hown (va_Nw.use rfl hE.2.2.2.2.2.2.2.2.1.1) (fun x h => h) hd (k ls hL)
theorem x_cast_nr : ∀ (X : xX) L S h q, x_cast pc L S h ≠ some (.inr q) := by
  intro X L S h q e
  unfold x_cast at e
  repeat' split at e
  all_goals first | exact xon_nr e | cases e
theorem snd_cast {ix : Nat} (hd : decode (x_cc mi) pc = .ok (.checkcast ix, 3)) (hw : Cond.classLink (x_on (x_ow mi)) ix "[I" ∈ x_tbl) : xSnd mi pc (fun _ => x_cast) := by
  refine xSnd.on x_cast_nr (xSA.same ?_)
  intro G p l e R s m args below meth c Q n0 C L S h pc' L' S' h' hF
  unfold x_cast at hF
  split at hF
  · rename_i o S0
    split at hF
    · rename_i n f ho
      obtain ⟨rfl, rfl, rfl, rfl⟩ := xon_inj hF
      refine ⟨rfl, fun _ _ H locs ls cells slots hR hL hS k => ?_⟩
      have e1 := (C.2.2.2.2.2.2.2.2.1.2 0 _ (show (xtys G)[0]? = some (G.ca 0, .int) from rfl)).2
      exact va_castA C.1 C.2.1 C.2.2.2.2.1 (C.2.2.2.2.2.1 _ hw) hR.2.1 o (hR.at ho) e1 hd (k ls hL)
    · cases hF
  · cases hF
end
