section XT_
variable {PL : xm_Y → Nat → Prop} {FL : xm_Y → xm_Y → Prop} (m : Nat)
theorem tf_ahead : tf_ PL FL (fn_X11_ahead m) (fn_X12_ahead m) := by
  intro c d iv
  obtain ⟨n, nb, gc, h1, h2, h3, h4, h5, h6, h7⟩ := id iv
  refine ⟨_, c, d, rfl, md_.rf c, ?_, cl_.rf d, iv⟩
  rw [fn_X12_ahead, h6]
theorem tf_made : tf_ PL FL (fn_X11_made m) (fn_X12_made m) := by
  intro c d iv
  obtain ⟨n, nb, gc, h1, h2, h3, h4, h5, h6, h7, h8, h9, h10⟩ := id iv
  refine ⟨_, c, d, rfl, md_.rf c, ?_, cl_.rf d, iv⟩
  rw [fn_X12_made, h10.1]
theorem tf_witness (x : Int32) : tf_ PL FL (fn_X11_witness m x) (fn_X12_witness m x) := by
  intro c d iv
  obtain ⟨n, nb, gc, h1, h2, h3, h4, h5, h6, h7, h8, h9, h10⟩ := id iv
  by_cases hx : x = 0
  · refine ⟨d.1 150 42, c, d, ?_, md_.rf c, ?_, cl_.rf d, iv⟩
    · rw [fn_X11_witness, if_pos hx, h10.2.1]
    · rw [fn_X12_witness, if_pos hx]; rfl
  · by_cases hx1 : x = 1
    · refine ⟨d.1 150 43, c, d, ?_, md_.rf c, ?_, cl_.rf d, iv⟩
      · rw [fn_X11_witness, if_neg hx, if_pos hx1, h10.2.2]; rfl
      · rw [fn_X12_witness, if_neg hx, if_pos hx1]; rfl
    · refine ⟨-1, c, d, ?_, md_.rf c, ?_, cl_.rf d, iv⟩
      · rw [fn_X11_witness, if_neg hx, if_neg hx1]; rfl
      · rw [fn_X12_witness, if_neg hx, if_neg hx1]; rfl
theorem ev_X7_hasNumber (x : Int32) (u : xm_Y) : fn_X7_hasNumber m x u = some (if x < 0 then 0 else if u.1 1 1 ≤ x then 0 else 1, u) := by
  unfold fn_X7_hasNumber xm_chk
  split
  · rfl
  · split <;> rfl
theorem ev_X12_isBody (x : Int32) (u : xm_Y) : fn_X12_isBody m x u = some (if x < 0 then 0 else if u.1 150 1 ≤ x then 0 else 1, u) := by
  unfold fn_X12_isBody xm_chk
  split
  · rfl
  · split <;> rfl
theorem ev_X11_isGiven (x : Int32) (u : xm_Y) : fn_X11_isGiven m x u = some (if x < -1000000 then 0 else if 1000000 < x then 0 else 1, u) := by
  unfold fn_X11_isGiven xm_chk
  split
  · rfl
  · split <;> rfl
theorem ev_X11_isSide (x : Int32) (u : xm_Y) : fn_X11_isSide m x u = some (if x = 0 then 1 else if x = 1 then 1 else 0, u) := by
  unfold fn_X11_isSide xm_chk
  split
  · rfl
  · split <;> rfl
theorem ev_X11_isConstant (x : Int32) (u : xm_Y) : fn_X11_isConstant m x u = some (if x < -1000 then 0 else if 1000 < x then 0 else 1, u) := by
  unfold fn_X11_isConstant xm_chk
  split
  · rfl
  · split <;> rfl
theorem ev_X11_isTurns (x : Int32) (u : xm_Y) : fn_X11_isTurns m x u = some (if x < 1 then 0 else if 10000 < x then 0 else 1, u) := by
  unfold fn_X11_isTurns xm_chk
  split
  · rfl
  · split <;> rfl
theorem ev_X11_isSize (x : Int32) (u : xm_Y) : fn_X11_isSize m x u = some (if x < 1 then 0 else if 5 < x then 0 else 1, u) := by
  unfold fn_X11_isSize xm_chk
  split
  · rfl
  · split <;> rfl
theorem ev_X11_isFunction (x : Int32) (u : xm_Y) : fn_X11_isFunction m x u = some (if x < 0 then 0 else if 8 ≤ x then 0 else 1, u) := by
  unfold fn_X11_isFunction xm_chk
  split
  · rfl
  · split <;> rfl
theorem ev_X12_areWeights (x y : Int32) (u : xm_Y) : fn_X12_areWeights m x y u = some (if x < 0 then 0 else if 68921 ≤ x then 0 else if y < -1000 then 0 else if 1000 < y then 0 else 1, u) := by
  unfold fn_X12_areWeights xm_chk
  split
  · rfl
  · split
    · rfl
    · split
      · rfl
      · split <;> rfl
theorem ck_t {β : Type} {p : Prop} [Decidable p] {a : Option β} (h : p) : xm_chk p a = a := if_pos h
theorem bd_s' {β γ : Type} {v : β} {f : β → Option γ} : (some v).bind f = f v := rfl
theorem tf_many (x : Int32) : tf_ PL FL (fn_X11_many m x) (fn_X12_many m x) := by
  intro c d iv
  obtain ⟨n, nb, gc, h1, h2, h3, h4, h5, h6, h7, h8, h9, h10⟩ := id iv
  obtain ⟨a1, a2, a3, a4, a5, a6, a7⟩ := h1
  by_cases hx : x = -1
  · refine ⟨nI nb, c, d, ?_, md_.rf c, ?_, cl_.rf d, iv⟩
    · rw [fn_X11_many, if_pos hx, a5]
    · rw [fn_X12_many, if_pos hx, a6]; rfl
  · by_cases hx0 : x < 0
    · refine ⟨-1, c, d, ?_, md_.rf c, ?_, cl_.rf d, iv⟩
      · rw [fn_X11_many, if_neg hx, ev_X7_has, if_pos hx0]; rfl
      · rw [fn_X12_many, if_neg hx, ev_X12_isBody, if_pos hx0]; rfl
    · by_cases hx1 : nI nb ≤ x
      · refine ⟨-1, c, d, ?_, md_.rf c, ?_, cl_.rf d, iv⟩
        · rw [fn_X11_many, if_neg hx, ev_X7_has, if_neg hx0, a5, if_pos hx1]; rfl
        · rw [fn_X12_many, if_neg hx, ev_X12_isBody, if_neg hx0, a6, if_pos hx1]; rfl
      · obtain ⟨b1, b2, b3, b4⟩ := hb_in hx0 hx1 (by omega)
        obtain ⟨g1, g2, -⟩ := h2 _ b1
        have hin : xm_in x 5 := ⟨b3, by omega⟩
        refine ⟨nI (gc x.toNatClampNeg), c, d, ?_, md_.rf c, ?_, cl_.rf d, iv⟩
        · rw [fn_X11_many, if_neg hx, ev_X7_has, if_neg hx0, a5, if_neg hx1]
          simp only [Option.bind_some]
          rw [if_neg (by decide), ck_t hin, g1]; rfl
        · rw [fn_X12_many, if_neg hx, ev_X12_isBody, if_neg hx0, a6, if_neg hx1]
          simp only [Option.bind_some]
          rw [if_neg (by decide), ck_t hin, g2]; rfl
theorem tf_at (x : Int32) : tf_ PL FL (fn_X11_at m x) (fn_X12_at m x) := by
  intro c d iv
  obtain ⟨n, nb, gc, h1, h2, h3, h4, h5, h6, h7, h8, h9, h10⟩ := id iv
  obtain ⟨a1, a2, a3, a4, a5, a6, a7⟩ := h1
  by_cases hx0 : x < 0
  · refine ⟨0, c, d, ?_, md_.rf c, ?_, cl_.rf d, iv⟩
    · rw [fn_X11_at, ev_X7_hasNumber, if_pos hx0]; rfl
    · rw [fn_X12_at, if_pos hx0]; rfl
  · by_cases hx1 : nI n ≤ x
    · refine ⟨0, c, d, ?_, md_.rf c, ?_, cl_.rf d, iv⟩
      · rw [fn_X11_at, ev_X7_hasNumber, if_neg hx0, a1, if_pos hx1]; rfl
      · rw [fn_X12_at, if_neg hx0, a2, if_pos hx1]; rfl
    · obtain ⟨b1, b2, b3, b4⟩ := hb_in hx0 hx1 (by omega)
      have hin : xm_in x 3 := ⟨b3, by omega⟩
      refine ⟨d.2 154 x.toNatClampNeg, c, d, ?_, md_.rf c, ?_, cl_.rf d, iv⟩
      · rw [fn_X11_at, ev_X7_hasNumber, if_neg hx0, a1, if_neg hx1]
        simp only [Option.bind_some]
        rw [if_neg (by decide), ck_t hin, (h3 _ (by omega)).1]; rfl
      · rw [fn_X12_at, if_neg hx0, a2, if_neg hx1, ck_t hin]; rfl
theorem tf_by (x : Int32) : tf_ PL FL (fn_X11_by m x) (fn_X12_by m x) := by
  intro c d iv
  obtain ⟨n, nb, gc, h1, h2, h3, h4, h5, h6, h7, h8, h9, h10⟩ := id iv
  obtain ⟨a1, a2, a3, a4, a5, a6, a7⟩ := h1
  by_cases hx0 : x < 0
  · refine ⟨-1, c, d, ?_, md_.rf c, ?_, cl_.rf d, iv⟩
    · rw [fn_X11_by, ev_X7_has, if_pos hx0]; rfl
    · rw [fn_X12_by, ev_X12_isBody, if_pos hx0]; rfl
  · by_cases hx1 : nI nb ≤ x
    · refine ⟨-1, c, d, ?_, md_.rf c, ?_, cl_.rf d, iv⟩
      · rw [fn_X11_by, ev_X7_has, if_neg hx0, a5, if_pos hx1]; rfl
      · rw [fn_X12_by, ev_X12_isBody, if_neg hx0, a6, if_pos hx1]; rfl
    · obtain ⟨b1, b2, b3, b4⟩ := hb_in hx0 hx1 (by omega)
      have hin : xm_in x 5 := ⟨b3, by omega⟩
      refine ⟨d.1 163 x.toNatClampNeg, c, d, ?_, md_.rf c, ?_, cl_.rf d, iv⟩
      · rw [fn_X11_by, ev_X7_has, if_neg hx0, a5, if_neg hx1]
        simp only [Option.bind_some]
        rw [if_neg (by decide), ck_t hin, (h7.2 _ (by omega)).1]; rfl
      · rw [fn_X12_by, ev_X12_isBody, if_neg hx0, a6, if_neg hx1]
        simp only [Option.bind_some]
        rw [if_neg (by decide), ck_t hin]; rfl
end XT_
