/-! LAYER 2, a first method: how a walk looks -/
theorem c_between {X : xX} {d : Nat} {h : xH} {x lo hi : Int} (hx : xr x) (hl : xr lo) (hh : xr hi) : Wp X d 81 0 (xent (x_ml 81) [vI x, vI lo, vI hi]) [] h (fun r h' => r = some (vI (if lo ≤ x ∧ x ≤ hi then 1 else 0)) ∧ h' = h) := by
  repeat refine xw_step rfl rfl ?_
  refine xw_cmp rfl hx hl (fun c1 => ?_) (fun c1 => ?_)
  · have c1 : x < lo := of_decide_eq_true c1
    repeat refine xw_step rfl rfl ?_
    refine xw_ret rfl rfl ⟨?_, rfl⟩
    rw [if_neg (by omega)]
  · have c1 : ¬ x < lo := of_decide_eq_false c1
    repeat refine xw_step rfl rfl ?_
    refine xw_cmp rfl hx hh (fun c2 => ?_) (fun c2 => ?_)
    · have c2 : hi < x := of_decide_eq_true c2
      repeat refine xw_step rfl rfl ?_
      refine xw_ret rfl rfl ⟨?_, rfl⟩
      rw [if_neg (by omega)]
    · have c2 : ¬ hi < x := of_decide_eq_false c2
      repeat refine xw_step rfl rfl ?_
      refine xw_ret rfl rfl ⟨?_, rfl⟩
      rw [if_pos (by omega)]
