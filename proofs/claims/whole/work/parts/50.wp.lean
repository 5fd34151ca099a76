/-! LAYER 2: a judgement over runs of the abstract machine -/
def Wp (X : xX) (d m pc : Nat) (L S : List xV) (h : xH) (Q : Option xV → xH → Prop) : Prop := ∃ (f : Nat) (r : Option xV) (h' : xH), xq (xP x_T X) x_ml f d m pc L S h = some (r, h') ∧ Q r h'
section
variable {X : xX} {d m pc : Nat} {L S : List xV} {h : xH} {Q : Option xV → xH → Prop}
theorem xP_at {q : xI} (ht : x_tab m pc = some q) : xP x_T X m pc = some (xop q X) := by
  unfold xP x_T
  rw [ht]
  rfl
theorem xw_step {q : xI} {pc' : Nat} {L' S' : List xV} {h' : xH} (ht : x_tab m pc = some q) (hs : xop q X pc L S h = some (.inl (pc', L', S', h'))) (k : Wp X d m pc' L' S' h' Q) : Wp X d m pc L S h Q := by
  obtain ⟨f, r, h2, h3, h4⟩ := k
  refine ⟨f + 1, r, h2, ?_, h4⟩
  rw [xq, xP_at ht]
  dsimp only
  rw [hs]
  exact h3
theorem xw_ret {q : xI} {r : Option xV} (ht : x_tab m pc = some q) (hs : xop q X pc L S h = some (.inr (.inr r))) (k : Q r h) : Wp X d m pc L S h Q := by
  refine ⟨1, r, h, ?_, k⟩
  rw [xq, xP_at ht]
  dsimp only
  rw [hs]
theorem xw_call {q : xI} {y : Nat} {as : List xV} {pc' : Nat} {S' : List xV} (ht : x_tab m pc = some q) (hs : xop q X pc L S h = some (.inr (.inl (y, as, pc', S')))) (hl : Nat.ble (xlo as).length (x_ml y) = true) (k : Wp X d y 0 (xent (x_ml y) as) [] h (fun r h' => Wp X (d + 1) m pc' L (r.toList ++ S') h' Q)) : Wp X (d + 1) m pc L S h Q := by
  obtain ⟨f1, r1, h1, e1, f2, r2, h2, e2, e3⟩ := k
  refine ⟨f1 + f2 + 1, r2, h2, ?_, e3⟩
  rw [xq, xP_at ht]
  dsimp only
  rw [hs]
  dsimp only
  rw [if_pos (Nat.le_of_ble_eq_true hl), xq_le (Nat.le_add_right f1 f2) e1]
  dsimp only
  exact xq_le (Nat.le_add_left f2 f1) e2
theorem xw_mono {Q' : Option xV → xH → Prop} (hq : ∀ r h', Q r h' → Q' r h') (k : Wp X d m pc L S h Q) : Wp X d m pc L S h Q' := by
  obtain ⟨f, r, h', e, e2⟩ := k
  exact ⟨f, r, h', e, hq _ _ e2⟩
/-- a comparison of two numbers -/
theorem xw_cmp {a : Nat} {b : Int} {t n : Nat} {x y : Int} (ht : x_tab m pc = some (23, a, b, t, n)) (hx : xr x) (hy : xr y) (k1 : xcondB a x y = true → Wp X d m t L S h Q) (k2 : xcondB a x y = false → Wp X d m (pc + 3) L S h Q) : Wp X d m pc L (.inl y :: .inl x :: S) h Q := by
  by_cases hc : xcondB a x y = true
  · refine xw_step ht ?_ (k1 hc)
    show x_cmp a t pc L (.inl y :: .inl x :: S) h = _
    unfold x_cmp
    dsimp only
    rw [if_pos ⟨hx, hy⟩, if_pos hc]
    rfl
  · refine xw_step ht ?_ (k2 (by simpa using hc))
    show x_cmp a t pc L (.inl y :: .inl x :: S) h = _
    unfold x_cmp
    dsimp only
    rw [if_pos ⟨hx, hy⟩, if_neg hc]
    rfl
theorem xw_if {a : Nat} {b : Int} {t n : Nat} {x : Int} (ht : x_tab m pc = some (22, a, b, t, n)) (hx : xr x) (k1 : xcondB a x 0 = true → Wp X d m t L S h Q) (k2 : xcondB a x 0 = false → Wp X d m (pc + 3) L S h Q) : Wp X d m pc L (.inl x :: S) h Q := by
  by_cases hc : xcondB a x 0 = true
  · refine xw_step ht ?_ (k1 hc)
    show x_if a t pc L (.inl x :: S) h = _
    unfold x_if
    dsimp only
    rw [if_pos hx, if_pos hc]
    rfl
  · refine xw_step ht ?_ (k2 (by simpa using hc))
    show x_if a t pc L (.inl x :: S) h = _
    unfold x_if
    dsimp only
    rw [if_pos hx, if_neg hc]
    rfl
end
