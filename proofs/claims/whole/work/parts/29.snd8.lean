/-! SOUNDNESS: constructors, texts' methods, answers -/
section
variable {mi pc : Nat}
theorem snd_callI {y ix ci : Nat} (hd : decode (x_cc mi) pc = .ok (.invokespecial ix, 3)) (hy : y < x_cnt) (hna : x_na y = x_np y + 1) (hrt : x_rt y = none) (hin : (x_nm y).name = "<init>") (hw1 : Cond.methodLink (x_on (x_ow mi)) ix (x_nm y) ∈ x_tbl) (hw2 : Cond.instanceMethod (x_nm y) ∈ x_tbl) : xSnd mi pc (fun _ => x_call y (x_na y) (xrk 3 ci)) := by
  refine xSnd.call ?_
  intro G p l e R s m args below meth c n0 C L S h y' as pc' S' hF
  unfold x_call at hF
  dsimp only at hF
  split at hF
  · rename_i hq
    obtain ⟨hq1, hq2, hq3⟩ := hq
    cases hF
    refine ⟨hy, rfl, fun H locs ls cells slots rm Pc Qc mc ms free hR hL hS hM hrc hrs hfr hlo hbl hPc hcs => ?_⟩
    obtain ⟨k1, k2, k3, k4, k5, k6, k7⟩ := x_okm_at hy
    have hst := xcall_st hq1
    have hlen : ((S.take (x_na y)).reverse).length = x_na y := by rw [List.length_reverse, List.length_take]; omega
    generalize (S.take (x_na y)).reverse = as at hst hlen hq3 hPc ⊢
    generalize S.drop (x_na y) = S1 at hst hq2 ⊢
    match as, hlen, hq3, hst, hPc with
    | [], hlen, _, _, _ => rw [hna] at hlen; simp at hlen
    | v :: as, hlen, hq3, hst, hPc =>
      have hv := xrk3_of hq3
      obtain ⟨o, rfl⟩ := hv
      have hT := C.2.2.2.2.2.1
      have hws : x_ws y = Cond.code (x_nm y) (x_cc y) (x_ml y) none :: x_tbl := by unfold x_ws; rw [hrt]
      refine va_runI (As := as.map (xc G)) (b := G.N + o) (rest := S1.map (xc G)) ⟨C.1, C.2.1, C.2.2.1, C.2.2.2.2.1, hT⟩ hM (cwI (x_np y) hT (x_ws_good hy) hws hrc hrs (hT _ k2) (hT _ hw1) (hT _ hw2) hin ⟨k4, k5, k6⟩ ⟨hfr, hlo⟩) ⟨hbl, hPc⟩ rfl (by rw [List.length_map]; rw [hna] at hlen; simpa using hlen) (by show ls.size = _; exact hL.1.1) ?_ (lv_room (by rw [xc_wd]; exact hq2)) hd hcs
      show S.map (xc G) = (as.map (xc G)).reverse ++ .ref (G.N + o) :: S1.map (xc G)
      rw [hst]
      simp [xc]
  · cases hF
theorem snd_callT {y ix ci : Nat} (hd : decode (x_cc mi) pc = .ok (.invokevirtual ix, 3)) (hy : y < x_cnt) (hcy : (x_nm y).cls = "java/lang/String") (hna : x_na y = x_np y + 1) (hw1 : Cond.methodLink (x_on (x_ow mi)) ix (x_nm y) ∈ x_tbl) (hw2 : Cond.instanceMethod (x_nm y) ∈ x_tbl) (hw3 : Cond.selects "java/lang/String" (x_nm y) (x_nm y) ∈ x_tbl) : xSnd mi pc (fun _ => x_call y (x_na y) (xrk 4 ci)) := by
  refine xSnd.call ?_
  intro G p l e R s m args below meth c n0 C L S h y' as pc' S' hF
  unfold x_call at hF
  dsimp only at hF
  split at hF
  · rename_i hq
    obtain ⟨hq1, hq2, hq3⟩ := hq
    cases hF
    refine ⟨hy, rfl, fun H locs ls cells slots rm Pc Qc mc ms free hR hL hS hM hrc hrs hfr hlo hbl hPc hcs => ?_⟩
    obtain ⟨k1, k2, k3, k4, k5, k6, k7⟩ := x_okm_at hy
    have hst := xcall_st hq1
    have hlen : ((S.take (x_na y)).reverse).length = x_na y := by rw [List.length_reverse, List.length_take]; omega
    generalize (S.take (x_na y)).reverse = as at hst hlen hq3 hPc ⊢
    generalize S.drop (x_na y) = S1 at hst hq2 ⊢
    match as, hlen, hq3, hst, hPc with
    | [], hlen, _, _, _ => rw [hna] at hlen; simp at hlen
    | v :: as, hlen, hq3, hst, hPc =>
      have hv := xrk4_of hq3
      obtain ⟨j, hj, rfl⟩ := hv
      have hT := C.2.2.2.2.2.1
      have hG : GoodIn x_tbl (wsV (x_on (x_ow mi)) ix "java/lang/String" (x_nm y) (x_ws y)) := by
        intro w hw
        unfold wsV at hw
        rcases List.mem_append.mp hw with hw | hw
        · refine x_tbl_good _ ?_
          simp only [List.mem_cons, List.not_mem_nil, or_false] at hw
          rcases hw with rfl | rfl | rfl | rfl
          · exact hw1
          · exact hw2
          · exact hw3
          · rw [← hcy]; exact k2
        · exact x_ws_good hy w hw
      obtain ⟨cell, g1, g2, g3, -⟩ := (C.2.2.2.2.2.2.2.2.2.1.2.2.2.2.2.2.2.1 j hj).1.kept hS.2.1
      refine va_runV (As := as.map (xc G)) (b := G.sa j) (rest := S1.map (xc G)) ⟨C.1, C.2.1, C.2.2.1, C.2.2.2.2.1, hT⟩ hM (cwV (x_np y) hT hG rfl hrc hrs ⟨hcy, k4, k5, k6⟩ ⟨hfr, hlo⟩) ⟨hbl, ⟨cell, g1, g2, g3⟩, hPc⟩ rfl (by rw [List.length_map]; rw [hna] at hlen; simpa using hlen) (by show ls.size = _; exact hL.1.1) ?_ (lv_room (by rw [xc_wd]; exact hq2)) hd hcs
      show S.map (xc G) = (as.map (xc G)).reverse ++ .ref (G.sa j) :: S1.map (xc G)
      rw [hst]
      simp [xc]
  · cases hF
theorem snd_ret {ty : Nat} (h1 : ty = 4 → decode (x_cc mi) pc = .ok (.return_, 1) ∧ x_rt mi = none) (h2 : ty = 2 → decode (x_cc mi) pc = .ok (.lreturn, 1) ∧ x_rt mi = some .long) (h3 : ty ≠ 4 → ty ≠ 2 → decode (x_cc mi) pc = .ok (.ireturn, 1) ∧ ∃ t, x_rt mi = some t ∧ xtyk ty t = true) : xSnd mi pc (fun _ => x_ret ty) := by
  refine ⟨?_, ?_, ?_⟩
  · intro G p l e R s m args below meth c Q n0 z0 C L S h pc' L' S' h' hF
    unfold x_ret at hF
    dsimp only at hF
    repeat' split at hF
    all_goals cases hF
  · intro G p l e R s m args below meth c n0 C L S h y as pc' S' hF
    unfold x_ret at hF
    dsimp only at hF
    repeat' split at hF
    all_goals cases hF
  · intro X L S h r hF
    unfold x_ret at hF
    dsimp only at hF
    split at hF
    · split at hF
      · rename_i ht
        cases hF
        exact Or.inr (Or.inr ⟨rfl, rfl, (h1 ht).1, (h1 ht).2⟩)
      · cases hF
    · rename_i v
      split at hF
      · rename_i hq
        cases hF
        obtain ⟨q1, q2⟩ := hq
        by_cases ht : ty = 2
        · subst ht
          match v, q2 with
          | .inr (.inl x), _ => exact Or.inr (Or.inl ⟨x, rfl, rfl, (h2 rfl).1, (h2 rfl).2⟩)
        · have ht4 : ty ≠ 4 := by
            intro z
            subst z
            match v, q2 with
            | .inl x, q2 => cases q2
            | .inr (.inl x), q2 => cases q2
            | .inr (.inr x), q2 => cases q2
          obtain ⟨d1, t, d2, d3⟩ := h3 ht4 ht
          have hvi : ∃ x, v = vI x := by
            unfold xfit at q2
            split at q2
            · exact ⟨_, rfl⟩
            · exact ⟨_, rfl⟩
            · exact absurd rfl ht
            · exact absurd rfl q1
            · exact ⟨_, rfl⟩
            · exact ⟨_, rfl⟩
            · cases q2
          obtain ⟨x, rfl⟩ := hvi
          exact Or.inl ⟨x, t, rfl, rfl, d1, d2, (xfit_ok (G := ((fun _ => 0, fun _ _ => 0), fun _ => 0, 0, fun _ => none, fun _ => 0, X)) d3 q2).1⟩
      · cases hF
    · cases hF
end
