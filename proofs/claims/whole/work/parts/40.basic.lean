/-! the pure functions, evaluated -/
theorem ev_X12_openAll (k : Nat) (u : xm_Y) : fn_X12_openAll (k + 7) u = some ((), w_I (w_I (w_I (w_I (w_I (w_I (w_I u 156 0 1) 156 1 1) 156 2 1) 156 3 1) 156 4 1) 156 5 1) 150 21 0) := rfl
theorem ev_X11_forgetPlaces (k : Nat) (u : xm_Y) : fn_X11_forgetPlaces (k + 6) u = some ((), w_I (w_I (w_I (w_I (w_I (w_I u 139 6 0) 6 3 0) 30 3 0) 54 3 0) 78 3 0) 102 3 0) := rfl
theorem ev_X7_has (m : Nat) (x : Int32) (u : xm_Y) : fn_X7_has m x u = some (if x < 0 then 0 else if u.1 1 2 ≤ x then 0 else 1, u) := by
  unfold fn_X7_has xm_chk
  split
  · rfl
  · split <;> rfl
theorem ev_X11_isCode (m : Nat) (x : Int32) (u : xm_Y) : fn_X11_isCode m x u = some (if x < 0 then 0 else if 68921 ≤ x then 0 else 1, u) := by
  unfold fn_X11_isCode xm_chk
  split
  · rfl
  · split <;> rfl
theorem rw_I (μ : xm_Y) (k j : Nat) (v : Int32) (k' j' : Nat) : (w_I μ k j v).1 k' j' = if k' = k then (if j' = j then v else μ.1 k' j') else μ.1 k' j' := rfl
theorem rw_I2 (μ : xm_Y) (k j : Nat) (v : Int32) : (w_I μ k j v).2 = μ.2 := rfl
theorem rw_J (μ : xm_Y) (k j : Nat) (v : Int64) (k' j' : Nat) : (w_J μ k j v).2 k' j' = if k' = k then (if j' = j then v else μ.2 k' j') else μ.2 k' j' := rfl
theorem rw_J2 (μ : xm_Y) (k j : Nat) (v : Int64) : (w_J μ k j v).1 = μ.1 := rfl
