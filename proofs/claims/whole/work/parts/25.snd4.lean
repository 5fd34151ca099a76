/-! SOUNDNESS: stores into arrays, lengths, new cells -/
/-- a new cell's address, and the heap behind it -/
theorem xRel_new {G : xG} {h : xH} {H H1 : Heap} {q : Nat} {c : xC} {en : va_E} {sz n0 cells : Nat} {s : State} (hR : xRel G h H) (hP : va_P G.D x_cls (xws G h ++ [(q, en)]) H1) (hD : va_D (xA G) (xws G h ++ [(q, en)])) (hz : H1.size ≤ s.heap.size + (cells + 1)) (hs : s.heap.size = G.N + n0) (h1 : cells + n0 = h.2.1) (he : en = xce G c) : q = G.N + h.2.1 ∧ xRel G (xnew h c sz) H1 := by
  have hl : (xws G h ++ [(q, en)])[h.2.1]? = some (q, en) := by
    rw [List.getElem?_append_right (by rw [xws_len]; exact Nat.le_refl _), xws_len]
    simp
  have hq1 : q < H1.size := (hP _ _ hl).lt
  have hq2 : G.N ≤ q := hD.2 _ _ hl
  have hq3 : ¬ q < G.N + h.2.1 := by
    intro hlt
    have hk : q - G.N < h.2.1 := by omega
    obtain ⟨c0, hc0⟩ := Option.isSome_iff_exists.mp ((hR.1 _).mpr hk)
    have h2 : (xws G h ++ [(q, en)])[q - G.N]? = some (G.N + (q - G.N), xce G c0) := by
      rw [List.getElem?_append_left (by rw [xws_len]; exact hk)]
      exact xws_get hk hc0
    have h3 := hD.1 _ _ _ _ h2 hl (by simp; omega)
    omega
  have hq : q = G.N + h.2.1 := by omega
  refine ⟨hq, xnew_some hR.1, ?_, ?_⟩
  · rw [hq, he] at hP
    rw [← xws_new]
    exact hP
  · have : (xnew h c sz).2.1 = h.2.1 + 1 := rfl
    rw [this]
    omega
theorem xupd (f : Nat → Int) (k : Nat) (x : Int) : (fun j => Int32.ofInt (xup f k x j)) = upd (fun j => Int32.ofInt (f j)) k (Int32.ofInt x) := by
  funext j
  by_cases hj : j = k <;> simp [xup, upd, hj]
theorem xupdL (f : Nat → Int) (k : Nat) (x : Int) : (fun j => Int64.ofInt (xup f k x j)) = vp_updL (fun j => Int64.ofInt (f j)) k (Int64.ofInt x) := by
  funext j
  by_cases hj : j = k <;> simp [xup, vp_updL, hj]
theorem xupdR (N : Nat) (f : Nat → Option Nat) (k : Nat) (x : Nat) : (fun j => (xup f k (some x) j).map (N + ·)) = va_up (fun j => (f j).map (N + ·)) k (some (N + x)) := by
  funext j
  by_cases hj : j = k <;> simp [xup, va_up, hj]
section
variable {mi pc : Nat}
theorem x_ast_nr {ka : Nat} : ∀ (X : xX) L S h q, x_ast ka pc L S h ≠ some (.inr q) := by
  intro X L S h q e
  unfold x_ast at e
  repeat' split at e
  all_goals first | exact xon_nr e | cases e
theorem snd_iast (hd : decode (x_cc mi) pc = .ok (.iastore, 1)) : xSnd mi pc (fun _ => x_ast 0) := by
  refine xSnd.on x_ast_nr ?_
  intro G p l e R s m args below meth c Q n0 z0 C L S h pc' L' S' h' hF
  unfold x_ast at hF
  dsimp only at hF
  split at hF
  · rename_i x i o S0
    split at hF
    · rename_i k n f ho
      split at hF
      · rename_i hq
        obtain ⟨rfl, -, hq2, hq3⟩ := hq
        obtain ⟨rfl, rfl, rfl, rfl⟩ := xon_inj hF
        refine ⟨Nat.le_refl _, Nat.le_refl _, fun _ _ _ _ kW H locs ls cells slots hR hL hS h1 h2 => ?_⟩
        refine va_iast C.1 C.2.1 C.2.2.2.2.2.2.2.2.1 hR.2.1 (xws_D G h) hS o 0 (hR.at ho) rfl (xI_in hq2 hq3) hd (fun H1 locs1 hP1 _ hS1 => ?_)
        rw [xI_nat hq2 hq3] at hP1
        refine W.sized (fun hz => ?_)
        refine kW H1 locs1 ls cells slots (xRel_set hR ho ?_ hz C.2.2.2.2.2.2.2.2.2.2 h1 hS1.1) hL hS1 h1 h2
        show va_P G.D x_cls ((xws G h).set o (G.N + o, .inl (G.ca 0, n, .inl (fun j => Int32.ofInt (xup f i.toNat x j))))) H1
        rw [xupd]
        exact hP1
      · cases hF
    · cases hF
  · split at hF
    · split at hF
      · rename_i hq; exact absurd hq.2.1 (by decide)
      · cases hF
    · cases hF
  · split at hF
    · split at hF
      · rename_i hq; exact absurd hq.1 (by decide)
      · cases hF
    · cases hF
  · cases hF
theorem snd_bast (hd : decode (x_cc mi) pc = .ok (.bastore, 1)) : xSnd mi pc (fun _ => x_ast 1) := by
  refine xSnd.on x_ast_nr ?_
  intro G p l e R s m args below meth c Q n0 z0 C L S h pc' L' S' h' hF
  unfold x_ast at hF
  dsimp only at hF
  split at hF
  · rename_i x i o S0
    split at hF
    · rename_i k n f ho
      split at hF
      · rename_i hq
        obtain ⟨rfl, hq1, hq2, hq3⟩ := hq
        have hx : x = 0 ∨ x = 1 := by
          rcases hq1 with h | h
          · exact absurd h (by decide)
          · exact h.2
        obtain ⟨rfl, rfl, rfl, rfl⟩ := xon_inj hF
        refine ⟨Nat.le_refl _, Nat.le_refl _, fun _ _ _ _ kW H locs ls cells slots hR hL hS h1 h2 => ?_⟩
        refine va_zast C.1 C.2.1 C.2.2.2.2.2.2.2.2.1 hR.2.1 (xws_D G h) hS o 1 (hR.at ho) rfl (xI_in hq2 hq3) hd (fun H1 locs1 hP1 _ hS1 => ?_)
        rw [xI_nat hq2 hq3] at hP1
        have e1 : vp_nar .boolean (Int32.ofInt x) = Int32.ofInt x := by rcases hx with rfl | rfl <;> rfl
        rw [e1] at hP1
        refine W.sized (fun hz => ?_)
        refine kW H1 locs1 ls cells slots (xRel_set hR ho ?_ hz C.2.2.2.2.2.2.2.2.2.2 h1 hS1.1) hL hS1 h1 h2
        show va_P G.D x_cls ((xws G h).set o (G.N + o, .inl (G.ca 1, n, .inl (fun j => Int32.ofInt (xup f i.toNat x j))))) H1
        rw [xupd]
        exact hP1
      · cases hF
    · cases hF
  · split at hF
    · split at hF
      · rename_i hq; exact absurd hq.2.1 (by decide)
      · cases hF
    · cases hF
  · split at hF
    · split at hF
      · rename_i hq; exact absurd hq.1 (by decide)
      · cases hF
    · cases hF
  · cases hF
theorem snd_last (hd : decode (x_cc mi) pc = .ok (.lastore, 1)) : xSnd mi pc (fun _ => x_ast 2) := by
  refine xSnd.on x_ast_nr ?_
  intro G p l e R s m args below meth c Q n0 z0 C L S h pc' L' S' h' hF
  unfold x_ast at hF
  dsimp only at hF
  split at hF
  · split at hF
    · split at hF
      · rename_i hq
        rcases hq.2.1 with h | h
        · exact absurd h (by decide)
        · exact absurd h.1 (by decide)
      · cases hF
    · cases hF
  · rename_i x i o S0
    split at hF
    · rename_i k n f ho
      split at hF
      · rename_i hq
        obtain ⟨rfl, -, hq2, hq3⟩ := hq
        obtain ⟨rfl, rfl, rfl, rfl⟩ := xon_inj hF
        refine ⟨Nat.le_refl _, Nat.le_refl _, fun _ _ _ _ kW H locs ls cells slots hR hL hS h1 h2 => ?_⟩
        refine va_last C.1 C.2.1 C.2.2.2.2.2.2.2.2.1 hR.2.1 (xws_D G h) hS o 2 (hR.at ho) rfl (xI_in hq2 hq3) hd (fun H1 locs1 hP1 _ hS1 => ?_)
        rw [xI_nat hq2 hq3] at hP1
        refine W.sized (fun hz => ?_)
        refine kW H1 locs1 ls cells slots (xRel_set hR ho ?_ hz C.2.2.2.2.2.2.2.2.2.2 h1 hS1.1) hL hS1 h1 h2
        show va_P G.D x_cls ((xws G h).set o (G.N + o, .inl (G.ca 2, n, .inr (.inl (fun j => Int64.ofInt (xup f i.toNat x j)))))) H1
        rw [xupdL]
        exact hP1
      · cases hF
    · cases hF
  · split at hF
    · split at hF
      · rename_i hq; exact absurd hq.1 (by decide)
      · cases hF
    · cases hF
  · cases hF
theorem snd_aast (hd : decode (x_cc mi) pc = .ok (.aastore, 1)) : xSnd mi pc (fun _ => x_ast 4) := by
  refine xSnd.on x_ast_nr ?_
  intro G p l e R s m args below meth c Q n0 z0 C L S h pc' L' S' h' hF
  unfold x_ast at hF
  dsimp only at hF
  split at hF
  · split at hF
    · split at hF
      · rename_i hq
        rcases hq.2.1 with h | h
        · exact absurd h (by decide)
        · exact absurd h.1 (by decide)
      · cases hF
    · cases hF
  · split at hF
    · split at hF
      · rename_i hq; exact absurd hq.2.1 (by decide)
      · cases hF
    · cases hF
  · rename_i v i o S0
    split at hF
    · rename_i n f cj vs ho hv
      split at hF
      · rename_i hq
        obtain ⟨-, rfl, hq2, hq3⟩ := hq
        obtain ⟨rfl, rfl, rfl, rfl⟩ := xon_inj hF
        refine ⟨Nat.le_refl _, Nat.le_refl _, fun _ _ _ _ kW H locs ls cells slots hR hL hS h1 h2 => ?_⟩
        refine va_astq C.1 C.2.1 C.2.2.2.2.2.2.2.2.1 hR.2.1 (xws_D G h) hS o 3 v 8 (r := (R_State, F_State, 15)) (hR.at ho) rfl (hR.at hv) rfl (xI_in hq2 hq3) hd (fun H1 locs1 hP1 _ hS1 => ?_)
        rw [xI_nat hq2 hq3] at hP1
        refine W.sized (fun hz => ?_)
        refine kW H1 locs1 ls cells slots (xRel_set hR ho ?_ hz C.2.2.2.2.2.2.2.2.2.2 h1 hS1.1) hL hS1 h1 h2
        show va_P G.D x_cls ((xws G h).set o (G.N + o, .inl (G.ca 4, n, .inr (.inr (.inr (.inr (fun j => (xup f i.toNat (some v) j).map (G.N + ·)))))))) H1
        rw [xupdR]
        exact hP1
      · cases hF
    · cases hF
  · cases hF
theorem x_alen_nr : ∀ (X : xX) L S h q, x_alen X pc L S h ≠ some (.inr q) := by
  intro X L S h q e
  unfold x_alen at e
  repeat' split at e
  all_goals first | exact xon_nr e | cases e
theorem snd_alen (hd : decode (x_cc mi) pc = .ok (.arraylength, 1)) : xSnd mi pc (fun X => x_alen X) := by
  refine xSnd.on x_alen_nr (xSA.same ?_)
  intro G p l e R s m args below meth c Q n0 C L S h pc' L' S' h' hF
  unfold x_alen at hF
  split at hF
  · rename_i o S0
    split at hF
    · rename_i k n f ho
      split at hF
      · rename_i hk3
        obtain ⟨rfl, rfl, rfl, rfl⟩ := xon_inj hF
        refine ⟨rfl, fun _ _ H locs ls cells slots hR hL hS k0 => ?_⟩
        have hk := k0 ls hL
        have ho2 := hR.at ho
        match k, hk3, ho2 with
        | 0, _, ho2 => exact va_alen C.1 C.2.1 C.2.2.2.2.2.2.2.2.1 hR.2.1 o 0 ho2 rfl (Int32.ofInt_eq_ofNat).symm hd hk
        | 1, _, ho2 => exact va_alen C.1 C.2.1 C.2.2.2.2.2.2.2.2.1 hR.2.1 o 1 ho2 rfl (Int32.ofInt_eq_ofNat).symm hd hk
        | 2, _, ho2 => exact va_alen C.1 C.2.1 C.2.2.2.2.2.2.2.2.1 hR.2.1 o 2 ho2 rfl (Int32.ofInt_eq_ofNat).symm hd hk
      · cases hF
    · cases hF
  · rename_i j S0
    split at hF
    · rename_i hq
      obtain ⟨rfl, rfl, rfl, rfl⟩ := xon_inj hF
      refine ⟨rfl, fun _ _ H locs ls cells slots hR hL hS k0 => ?_⟩
      have hk := k0 ls hL
      rcases hq with hq | hq
      · obtain ⟨a, ha, hT⟩ := C.2.2.2.2.2.2.2.2.2.1.1 j hq
        show W p l e R s m args below meth c H locs cells slots Q (F0 m pc ls (va_rf (G.ea j) :: List.map (xc G) S0))
        rw [ha]
        exact va_tlen C.1 C.2.1 hT hS (Int32.ofInt_eq_ofNat).symm hd hk
      · obtain ⟨a, ha, hT⟩ := C.2.2.2.2.2.2.2.2.2.1.2.1 j hq
        show W p l e R s m args below meth c H locs cells slots Q (F0 m pc ls (va_rf (G.ea j) :: List.map (xc G) S0))
        rw [ha]
        exact va_tlen C.1 C.2.1 hT hS (Int32.ofInt_eq_ofNat).symm hd hk
    · cases hF
  · cases hF
end
