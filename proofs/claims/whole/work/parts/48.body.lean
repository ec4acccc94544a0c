/-- only the cells of S were written -/
def on_ (S : Nat → Prop) (c c' : xm_Y) : Prop := ∀ k, ¬ S k → c'.1 k = c.1 k ∧ c'.2 k = c.2 k
theorem on_.rf {S : Nat → Prop} (c : xm_Y) : on_ S c c := fun _ _ => ⟨rfl, rfl⟩
theorem on_.wI {S : Nat → Prop} {c c' : xm_Y} (h : on_ S c c') {k j : Nat} {v : Int32} (hk : S k) : on_ S c (w_I c' k j v) := fun q hq => ⟨(show xm_u2 c'.1 k j v q = c.1 q by rw [xm_u2_ne (show q ≠ k from fun e => hq (by rw [e]; exact hk))]; exact (h q hq).1), (h q hq).2⟩
theorem on_.wJ {S : Nat → Prop} {c c' : xm_Y} (h : on_ S c c') {k j : Nat} {v : Int64} (hk : S k) : on_ S c (w_J c' k j v) := fun q hq => ⟨(h q hq).1, (show xm_u2 c'.2 k j v q = c.2 q by rw [xm_u2_ne (show q ≠ k from fun e => hq (by rw [e]; exact hk))]; exact (h q hq).2)⟩
theorem rI_eq {μ : xm_Y} {k j : Nat} {v : Int32} : (w_I μ k j v).1 k j = v := by
  show (if k = k then (if j = j then v else μ.1 k j) else μ.1 k j) = v
  rw [if_pos rfl, if_pos rfl]
theorem rI_ne {μ : xm_Y} {k j k' j' : Nat} {v : Int32} (h : ¬ (k' = k ∧ j' = j)) : (w_I μ k j v).1 k' j' = μ.1 k' j' := by
  show (if k' = k then (if j' = j then v else μ.1 k' j') else μ.1 k' j') = μ.1 k' j'
  by_cases h1 : k' = k
  · rw [if_pos h1, if_neg (fun q => h ⟨h1, q⟩)]
  · rw [if_neg h1]
theorem rI_nc {μ : xm_Y} {k j k' : Nat} {v : Int32} (h : k' ≠ k) : (w_I μ k j v).1 k' = μ.1 k' := xm_u2_ne h
theorem rJ_nc {μ : xm_Y} {k j k' : Nat} {v : Int64} (h : k' ≠ k) : (w_J μ k j v).2 k' = μ.2 k' := xm_u2_ne h
def bo_c (c : xm_Y) (b : Nat) : xm_Y := w_I (w_I (w_I (w_I (w_I (w_I (w_I (w_I (w_I (w_I (w_I (w_I (w_I c (3 + 24 * b) 4 0) (21 + 24 * b + 2 * 0 + 1) 0 1) (21 + 24 * b + 2 * 0 + 1) 1 0) (21 + 24 * b + 2 * 0 + 1) 2 0) (21 + 24 * b + 2 * 0) 1 0) (21 + 24 * b + 2 * 1 + 1) 0 0) (21 + 24 * b + 2 * 1 + 1) 1 1) (21 + 24 * b + 2 * 1 + 1) 2 0) (21 + 24 * b + 2 * 1) 1 0) (21 + 24 * b + 2 * 2 + 1) 0 0) (21 + 24 * b + 2 * 2 + 1) 1 0) (21 + 24 * b + 2 * 2 + 1) 2 1) (21 + 24 * b + 2 * 2) 1 0
theorem ev_startAnew (k b : Nat) (c : xm_Y) : fn_X1_startAnew (k + 10) b c = some ((), bo_c c b) := rfl
theorem bo_on (c : xm_Y) (b : Nat) : on_ (fun k => 3 + 24 * b ≤ k ∧ k < 27 + 24 * b) c (bo_c c b) := by
  unfold bo_c
  exact (((((((((((((on_.rf c).wI (by omega)).wI (by omega)).wI (by omega)).wI (by omega)).wI (by omega)).wI (by omega)).wI (by omega)).wI (by omega)).wI (by omega)).wI (by omega)).wI (by omega)).wI (by omega)).wI (by omega)
def bo_d (d : xm_Y) (b : Nat) : xm_Y := w_I (w_I (w_I (w_I (w_I (w_I (w_I (w_I (w_I (w_I (w_I (w_I (w_I (w_I d 151 b 0) 163 b (-1)) 153 ((3 * b + 0) * 4 + 0) 1) 153 ((3 * b + 0) * 4 + 1) 0) 153 ((3 * b + 0) * 4 + 2) 0) 153 ((3 * b + 0) * 4 + 3) 0) 153 ((3 * b + 1) * 4 + 0) 0) 153 ((3 * b + 1) * 4 + 1) 1) 153 ((3 * b + 1) * 4 + 2) 0) 153 ((3 * b + 1) * 4 + 3) 0) 153 ((3 * b + 2) * 4 + 0) 0) 153 ((3 * b + 2) * 4 + 1) 0) 153 ((3 * b + 2) * 4 + 2) 1) 153 ((3 * b + 2) * 4 + 3) 0
theorem ev_bodyd (k b : Nat) (hb : b < 5) (d : xm_Y) (h : d.1 150 1 = nI b) : fn_X12_body (k + 10) d = some (nI b, op_d (w_I (bo_d d b) 150 1 (nI b + 1))) := by
  have e1 : fn_X12_body (k + 10) d = (if nI b = (5 : Int32) then some ((-2 : Int32), d) else xm_chk (xm_in (nI b) 5) (xm_chk (xm_in (nI b) 5) ((lp_X12_body_32 (k + 10) (nI b) (k + 10) (0 : Int32) (w_I (w_I d 151 (nI b).toNatClampNeg 0) 163 (nI b).toNatClampNeg (-1))).bind fun q14 => (fn_X12_openAll (k + 10) (w_I q14.2 150 1 ((q14.2.1 150 1) + (1 : Int32)))).bind fun q16 => some (nI b, q16.2)))) := by
    rw [fn_X12_body, h]; rfl
  rw [e1]
  have e2 : lp_X12_body_32 (k + 10) (nI b) (k + 10) (0 : Int32) (w_I (w_I d 151 (nI b).toNatClampNeg 0) 163 (nI b).toNatClampNeg (-1)) = some (3, bo_d d b) := by
    rcases lt5_ hb with rfl | rfl | rfl | rfl | rfl <;> rfl
  have e3 : (bo_d d b).1 150 1 = nI b := by
    unfold bo_d
    rw [rI_ne (by omega), rI_ne (by omega), rI_ne (by omega), rI_ne (by omega), rI_ne (by omega), rI_ne (by omega), rI_ne (by omega), rI_ne (by omega), rI_ne (by omega), rI_ne (by omega), rI_ne (by omega), rI_ne (by omega), rI_ne (by omega), rI_ne (by omega)]
    exact h
  have e4 : ¬ nI b = (5 : Int32) := by
    rcases lt5_ hb with rfl | rfl | rfl | rfl | rfl <;> decide
  rw [if_neg e4, ck_t (nI_xi hb (by omega)), ck_t (nI_xi hb (by omega)), e2]
  simp only [Option.bind_some]
  rw [e3, ev_X12_openAll' (by omega)]
  rfl
theorem bo_don (d : xm_Y) (b : Nat) : on_ (fun k => k = 151 ∨ k = 163 ∨ k = 153) d (bo_d d b) := by
  unfold bo_d
  exact ((((((((((((((on_.rf d).wI (by simp)).wI (by simp)).wI (by simp)).wI (by simp)).wI (by simp)).wI (by simp)).wI (by simp)).wI (by simp)).wI (by simp)).wI (by simp)).wI (by simp)).wI (by simp)).wI (by simp)).wI (by simp)
theorem bo_d1 {d : xm_Y} {b k : Nat} : (bo_d d b).1 151 k = if k = b then 0 else d.1 151 k := by
  unfold bo_d
  rw [rI_ne (by omega), rI_ne (by omega), rI_ne (by omega), rI_ne (by omega), rI_ne (by omega), rI_ne (by omega), rI_ne (by omega), rI_ne (by omega), rI_ne (by omega), rI_ne (by omega), rI_ne (by omega), rI_ne (by omega), rI_ne (by omega)]
  by_cases h : k = b
  · subst h; rw [rI_eq, if_pos rfl]
  · rw [rI_ne (by omega), if_neg h]
theorem bo_d3 {d : xm_Y} {b k : Nat} : (bo_d d b).1 163 k = if k = b then -1 else d.1 163 k := by
  unfold bo_d
  rw [rI_ne (by omega), rI_ne (by omega), rI_ne (by omega), rI_ne (by omega), rI_ne (by omega), rI_ne (by omega), rI_ne (by omega), rI_ne (by omega), rI_ne (by omega), rI_ne (by omega), rI_ne (by omega), rI_ne (by omega)]
  by_cases h : k = b
  · subst h; rw [rI_eq, if_pos rfl]
  · rw [rI_ne (by omega), rI_ne (by omega), if_neg h]
theorem bo_d2 {d : xm_Y} {b k : Nat} (h : k < 12 * b ∨ 12 * b + 12 ≤ k) : (bo_d d b).1 153 k = d.1 153 k := by
  unfold bo_d
  rw [rI_ne (by omega), rI_ne (by omega), rI_ne (by omega), rI_ne (by omega), rI_ne (by omega), rI_ne (by omega), rI_ne (by omega), rI_ne (by omega), rI_ne (by omega), rI_ne (by omega), rI_ne (by omega), rI_ne (by omega), rI_ne (by omega), rI_ne (by omega)]
theorem bo_g {c : xm_Y} {b : Nat} : (bo_c c b).1 (3 + 24 * b) 4 = 0 := by
  unfold bo_c
  rw [rI_ne (by omega), rI_ne (by omega), rI_ne (by omega), rI_ne (by omega), rI_ne (by omega), rI_ne (by omega), rI_ne (by omega), rI_ne (by omega), rI_ne (by omega), rI_ne (by omega), rI_ne (by omega), rI_ne (by omega), rI_eq]
theorem bo_w00 {c : xm_Y} {b : Nat} : (bo_c c b).1 (21 + 24 * b + 2 * 0 + 1) 0 = 1 := by
  unfold bo_c
  rw [rI_ne (by omega), rI_ne (by omega), rI_ne (by omega), rI_ne (by omega), rI_ne (by omega), rI_ne (by omega), rI_ne (by omega), rI_ne (by omega), rI_ne (by omega), rI_ne (by omega), rI_ne (by omega), rI_eq]
theorem bo_w01 {c : xm_Y} {b : Nat} : (bo_c c b).1 (21 + 24 * b + 2 * 0 + 1) 1 = 0 := by
  unfold bo_c
  rw [rI_ne (by omega), rI_ne (by omega), rI_ne (by omega), rI_ne (by omega), rI_ne (by omega), rI_ne (by omega), rI_ne (by omega), rI_ne (by omega), rI_ne (by omega), rI_ne (by omega), rI_eq]
theorem bo_w02 {c : xm_Y} {b : Nat} : (bo_c c b).1 (21 + 24 * b + 2 * 0 + 1) 2 = 0 := by
  unfold bo_c
  rw [rI_ne (by omega), rI_ne (by omega), rI_ne (by omega), rI_ne (by omega), rI_ne (by omega), rI_ne (by omega), rI_ne (by omega), rI_ne (by omega), rI_ne (by omega), rI_eq]
theorem bo_k0 {c : xm_Y} {b : Nat} : (bo_c c b).1 (21 + 24 * b + 2 * 0) 1 = 0 := by
  unfold bo_c
  rw [rI_ne (by omega), rI_ne (by omega), rI_ne (by omega), rI_ne (by omega), rI_ne (by omega), rI_ne (by omega), rI_ne (by omega), rI_ne (by omega), rI_eq]
theorem bo_e00 {d : xm_Y} {b : Nat} : (bo_d d b).1 153 ((3 * b + 0) * 4 + 0) = 1 := by
  unfold bo_d
  rw [rI_ne (by omega), rI_ne (by omega), rI_ne (by omega), rI_ne (by omega), rI_ne (by omega), rI_ne (by omega), rI_ne (by omega), rI_ne (by omega), rI_ne (by omega), rI_ne (by omega), rI_ne (by omega), rI_eq]
theorem bo_e01 {d : xm_Y} {b : Nat} : (bo_d d b).1 153 ((3 * b + 0) * 4 + 1) = 0 := by
  unfold bo_d
  rw [rI_ne (by omega), rI_ne (by omega), rI_ne (by omega), rI_ne (by omega), rI_ne (by omega), rI_ne (by omega), rI_ne (by omega), rI_ne (by omega), rI_ne (by omega), rI_ne (by omega), rI_eq]
theorem bo_e02 {d : xm_Y} {b : Nat} : (bo_d d b).1 153 ((3 * b + 0) * 4 + 2) = 0 := by
  unfold bo_d
  rw [rI_ne (by omega), rI_ne (by omega), rI_ne (by omega), rI_ne (by omega), rI_ne (by omega), rI_ne (by omega), rI_ne (by omega), rI_ne (by omega), rI_ne (by omega), rI_eq]
theorem bo_e03 {d : xm_Y} {b : Nat} : (bo_d d b).1 153 ((3 * b + 0) * 4 + 3) = 0 := by
  unfold bo_d
  rw [rI_ne (by omega), rI_ne (by omega), rI_ne (by omega), rI_ne (by omega), rI_ne (by omega), rI_ne (by omega), rI_ne (by omega), rI_ne (by omega), rI_eq]
theorem bo_w10 {c : xm_Y} {b : Nat} : (bo_c c b).1 (21 + 24 * b + 2 * 1 + 1) 0 = 0 := by
  unfold bo_c
  rw [rI_ne (by omega), rI_ne (by omega), rI_ne (by omega), rI_ne (by omega), rI_ne (by omega), rI_ne (by omega), rI_ne (by omega), rI_eq]
theorem bo_w11 {c : xm_Y} {b : Nat} : (bo_c c b).1 (21 + 24 * b + 2 * 1 + 1) 1 = 1 := by
  unfold bo_c
  rw [rI_ne (by omega), rI_ne (by omega), rI_ne (by omega), rI_ne (by omega), rI_ne (by omega), rI_ne (by omega), rI_eq]
theorem bo_w12 {c : xm_Y} {b : Nat} : (bo_c c b).1 (21 + 24 * b + 2 * 1 + 1) 2 = 0 := by
  unfold bo_c
  rw [rI_ne (by omega), rI_ne (by omega), rI_ne (by omega), rI_ne (by omega), rI_ne (by omega), rI_eq]
theorem bo_k1 {c : xm_Y} {b : Nat} : (bo_c c b).1 (21 + 24 * b + 2 * 1) 1 = 0 := by
  unfold bo_c
  rw [rI_ne (by omega), rI_ne (by omega), rI_ne (by omega), rI_ne (by omega), rI_eq]
theorem bo_e10 {d : xm_Y} {b : Nat} : (bo_d d b).1 153 ((3 * b + 1) * 4 + 0) = 0 := by
  unfold bo_d
  rw [rI_ne (by omega), rI_ne (by omega), rI_ne (by omega), rI_ne (by omega), rI_ne (by omega), rI_ne (by omega), rI_ne (by omega), rI_eq]
theorem bo_e11 {d : xm_Y} {b : Nat} : (bo_d d b).1 153 ((3 * b + 1) * 4 + 1) = 1 := by
  unfold bo_d
  rw [rI_ne (by omega), rI_ne (by omega), rI_ne (by omega), rI_ne (by omega), rI_ne (by omega), rI_ne (by omega), rI_eq]
theorem bo_e12 {d : xm_Y} {b : Nat} : (bo_d d b).1 153 ((3 * b + 1) * 4 + 2) = 0 := by
  unfold bo_d
  rw [rI_ne (by omega), rI_ne (by omega), rI_ne (by omega), rI_ne (by omega), rI_ne (by omega), rI_eq]
theorem bo_e13 {d : xm_Y} {b : Nat} : (bo_d d b).1 153 ((3 * b + 1) * 4 + 3) = 0 := by
  unfold bo_d
  rw [rI_ne (by omega), rI_ne (by omega), rI_ne (by omega), rI_ne (by omega), rI_eq]
theorem bo_w20 {c : xm_Y} {b : Nat} : (bo_c c b).1 (21 + 24 * b + 2 * 2 + 1) 0 = 0 := by
  unfold bo_c
  rw [rI_ne (by omega), rI_ne (by omega), rI_ne (by omega), rI_eq]
theorem bo_w21 {c : xm_Y} {b : Nat} : (bo_c c b).1 (21 + 24 * b + 2 * 2 + 1) 1 = 0 := by
  unfold bo_c
  rw [rI_ne (by omega), rI_ne (by omega), rI_eq]
theorem bo_w22 {c : xm_Y} {b : Nat} : (bo_c c b).1 (21 + 24 * b + 2 * 2 + 1) 2 = 1 := by
  unfold bo_c
  rw [rI_ne (by omega), rI_eq]
theorem bo_k2 {c : xm_Y} {b : Nat} : (bo_c c b).1 (21 + 24 * b + 2 * 2) 1 = 0 := by
  unfold bo_c
  rw [rI_eq]
theorem bo_e20 {d : xm_Y} {b : Nat} : (bo_d d b).1 153 ((3 * b + 2) * 4 + 0) = 0 := by
  unfold bo_d
  rw [rI_ne (by omega), rI_ne (by omega), rI_ne (by omega), rI_eq]
theorem bo_e21 {d : xm_Y} {b : Nat} : (bo_d d b).1 153 ((3 * b + 2) * 4 + 1) = 0 := by
  unfold bo_d
  rw [rI_ne (by omega), rI_ne (by omega), rI_eq]
theorem bo_e22 {d : xm_Y} {b : Nat} : (bo_d d b).1 153 ((3 * b + 2) * 4 + 2) = 1 := by
  unfold bo_d
  rw [rI_ne (by omega), rI_eq]
theorem bo_e23 {d : xm_Y} {b : Nat} : (bo_d d b).1 153 ((3 * b + 2) * 4 + 3) = 0 := by
  unfold bo_d
  rw [rI_eq]
theorem i20_0 : -20 ≤ (0 : Int32).toInt ∧ (0 : Int32).toInt ≤ 20 := by decide
theorem i20_1 : -20 ≤ (1 : Int32).toInt ∧ (1 : Int32).toInt ≤ 20 := by decide
theorem bo_row {c d : xm_Y} {b i n : Nat} (hi : i < n) (hn : n ≤ 3) : iv_row ((bo_c c b).1 (21 + 24 * b + 2 * i + 1)) ((bo_c c b).1 (21 + 24 * b + 2 * i) 1) ((bo_d d b).1 153) ((3 * b + i) * 4) n := by
  have hi3 : i < 3 := by omega
  refine ⟨fun k hk => ?_, ?_⟩
  · rcases lt3_ hi3 with rfl | rfl | rfl <;> rcases lt3_ hk with rfl | rfl | rfl
    · rw [bo_w00, bo_e00]; exact ⟨rfl, i20_1.1, i20_1.2, fun q => absurd q (by omega)⟩
    · rw [bo_w01, bo_e01]; exact ⟨rfl, i20_0.1, i20_0.2, fun _ => rfl⟩
    · rw [bo_w02, bo_e02]; exact ⟨rfl, i20_0.1, i20_0.2, fun _ => rfl⟩
    · rw [bo_w10, bo_e10]; exact ⟨rfl, i20_0.1, i20_0.2, fun _ => rfl⟩
    · rw [bo_w11, bo_e11]; exact ⟨rfl, i20_1.1, i20_1.2, fun q => absurd q (by omega)⟩
    · rw [bo_w12, bo_e12]; exact ⟨rfl, i20_0.1, i20_0.2, fun _ => rfl⟩
    · rw [bo_w20, bo_e20]; exact ⟨rfl, i20_0.1, i20_0.2, fun _ => rfl⟩
    · rw [bo_w21, bo_e21]; exact ⟨rfl, i20_0.1, i20_0.2, fun _ => rfl⟩
    · rw [bo_w22, bo_e22]; exact ⟨rfl, i20_1.1, i20_1.2, fun q => absurd q (by omega)⟩
  · rcases lt3_ hi3 with rfl | rfl | rfl
    · rw [bo_k0, bo_e03]; exact ⟨rfl, by decide, by decide⟩
    · rw [bo_k1, bo_e13]; exact ⟨rfl, by decide, by decide⟩
    · rw [bo_k2, bo_e23]; exact ⟨rfl, by decide, by decide⟩
theorem bo_id {c : xm_Y} {b i : Nat} (hi : i < 3) : (∀ k, k < 3 → (bo_c c b).1 (21 + 24 * b + 2 * i + 1) k = if k = i then 1 else 0) ∧ (bo_c c b).1 (21 + 24 * b + 2 * i) 1 = 0 := by
  refine ⟨fun k hk => ?_, ?_⟩
  · rcases lt3_ hi with rfl | rfl | rfl <;> rcases lt3_ hk with rfl | rfl | rfl
    · exact bo_w00
    · exact bo_w01
    · exact bo_w02
    · exact bo_w10
    · exact bo_w11
    · exact bo_w12
    · exact bo_w20
    · exact bo_w21
    · exact bo_w22
  · rcases lt3_ hi with rfl | rfl | rfl
    · exact bo_k0
    · exact bo_k1
    · exact bo_k2
section XT_
variable {PL : xm_Y → Nat → Prop} {FL : xm_Y → xm_Y → Prop} {m : Nat}
theorem tf_body (hm : 100 ≤ m) : tf_ PL FL (fn_X11_body m) (fn_X12_body m) := by
  intro c d iv
  obtain ⟨n, nb, gc, h1, h2, h3, h4, h5, h6, h7, h8, h9, h10⟩ := id iv
  obtain ⟨a1, a2, a3, a4, a5, a6, a7⟩ := id h1
  by_cases hb : nb < 5
  · obtain ⟨k, rfl⟩ := Nat.exists_eq_add_of_le' (show 10 ≤ m by omega)
    have hcl : (nI nb).toNatClampNeg = nb := nI_cl (by omega)
    have hlt : nI nb < (5 : Int32) := by
      rw [Int32.lt_iff_toInt_lt, nI_u (by omega)]
      show (nb : Int) < 5
      omega
    have on1 := bo_on c nb
    have c1 : ∀ q, q < 3 → (bo_c c nb).1 q = c.1 q := fun q hq => (on1 q (by omega)).1
    have e1 : (bo_c c nb).1 1 2 = nI nb := by rw [c1 1 (by omega)]; exact a5
    have hcc : fn_X11_body (k + 10) c = some (nI nb, op_c (w_I (bo_c c nb) 1 2 (nI nb + 1)) n) := by
      rw [fn_X11_body, a5, if_pos hlt, fn_X7_addBody, a5, if_pos hlt, ck_t (nI_xi hb (by omega)), hcl, ev_startAnew]
      simp only [Option.bind_some, xm_let]
      rw [e1]
      have e2 : (w_I (bo_c c nb) 1 2 (nI nb + 1)).1 1 1 = nI n := by
        rw [rI_ne (by omega), c1 1 (by omega)]; exact a1
      rw [ev_openTheBox (by omega) a3 a4 _ e2]
      simp only [Option.bind_some]
      rw [rI_eq, nI_sp]
    have on2 := bo_don d nb
    have d1 : ∀ q, q ≠ 151 → q ≠ 163 → q ≠ 153 → (bo_d d nb).1 q = d.1 q ∧ (bo_d d nb).2 q = d.2 q := fun q h1 h2 h3 => on2 q (by rintro (h | h | h) <;> contradiction)
    refine ⟨nI nb, _, _, hcc, ?_, ev_bodyd k nb hb d a6, ?_, iv_open (nb := nb + 1) (gc := fun b => if b = nb then 0 else gc b) ⟨?_, ?_, ?_, ?_, ?_, ?_, ?_, ?_⟩⟩
    · refine md_.tr ?_ (op_md _ n)
      exact (md_.wI (fun q hq => on1 q (by omega)) (by decide))
    · refine cl_.tr ?_ (op_cl _)
      exact (cl_.wI (fun q hq => on2 q (by omega)) (by decide))
    · refine ⟨?_, ?_, a3, a4, by rw [rI_eq, nI_succ], by rw [rI_eq, nI_succ], by omega⟩
      · rw [rI_ne (by omega), c1 1 (by omega)]; exact a1
      · rw [rI_ne (by omega), (d1 150 (by decide) (by decide) (by decide)).1]; exact a2
    · intro b hbb
      have w1 : ∀ q, 3 ≤ q → (w_I (bo_c c nb) 1 2 (nI nb + 1)).1 q = (bo_c c nb).1 q := fun q hq => xm_u2_ne (by omega)
      have w2 : ∀ q, 151 ≤ q → (w_I (bo_d d nb) 150 1 (nI nb + 1)).1 q = (bo_d d nb).1 q := fun q hq => xm_u2_ne (by omega)
      rw [w2 151 (by omega), w2 152 (by omega), w2 153 (by omega), w1 _ (by omega)]
      by_cases hbn : b = nb
      · subst hbn
        dsimp only
        rw [if_pos rfl]
        refine ⟨?_, ?_, by omega, fun g hg => absurd hg (by omega), fun i hi => ?_, fun i hi hi3 => ?_⟩
        · exact bo_g
        · rw [bo_d1, if_pos rfl]; rfl
        · rw [w1 _ (by omega), w1 _ (by omega)]
          exact bo_row hi a4
        · rw [w1 _ (by omega), w1 _ (by omega)]
          exact bo_id hi3
      · have hlt2 : b < nb := by omega
        obtain ⟨g1, g2, g3, g4, g5, g6⟩ := h2 b hlt2
        have cb : ∀ q, 3 + 24 * b ≤ q → q < 27 + 24 * b → (bo_c c nb).1 q = c.1 q := fun q h1 h2 => (on1 q (by omega)).1
        dsimp only
        rw [if_neg hbn, cb _ (by omega) (by omega)]
        refine ⟨g1, by rw [bo_d1, if_neg hbn]; exact g2, g3, fun g hg => ?_, fun i hi => ?_, fun i hi hi3 => ?_⟩
        · rw [w1 _ (by omega), w1 _ (by omega), cb _ (by omega) (by omega), cb _ (by omega) (by omega), (d1 152 (by decide) (by decide) (by decide)).1]
          exact g4 g hg
        · rw [w1 _ (by omega), w1 _ (by omega), cb _ (by omega) (by omega), cb _ (by omega) (by omega)]
          obtain ⟨r1, r2, r3, r4⟩ := g5 i hi
          refine ⟨fun k hk => ?_, ?_, r3, r4⟩
          · rw [bo_d2 (by omega)]; exact r1 k hk
          · rw [bo_d2 (by omega)]; exact r2
        · rw [w1 _ (by omega), w1 _ (by omega), cb _ (by omega) (by omega), cb _ (by omega) (by omega)]
          exact g6 i hi hi3
    · intro i hi
      have e1 : (w_I (bo_c c nb) 1 2 (nI nb + 1)).2 123 = c.2 123 := (on1 123 (by omega)).2
      have e2 : (w_I (bo_d d nb) 150 1 (nI nb + 1)).2 154 = d.2 154 := (d1 154 (by decide) (by decide) (by decide)).2
      rw [e1, e2]; exact h3 i hi
    · have e1 : (w_I (bo_c c nb) 1 2 (nI nb + 1)).2 130 = c.2 130 := (on1 130 (by omega)).2
      have e2 : (w_I (bo_d d nb) 150 1 (nI nb + 1)).2 157 = d.2 157 := (d1 157 (by decide) (by decide) (by decide)).2
      have e3 : (w_I (bo_d d nb) 150 1 (nI nb + 1)).1 158 = d.1 158 := (rI_nc (by decide)).trans (d1 158 (by decide) (by decide) (by decide)).1
      unfold iv_4
      rw [e1, e2, e3]; exact h4
    · have e1 : (w_I (bo_c c nb) 1 2 (nI nb + 1)).1 124 = c.1 124 := (rI_nc (by decide)).trans (on1 124 (by omega)).1
      unfold iv_6
      rw [e1, rI_ne (by omega), (d1 150 (by decide) (by decide) (by decide)).1]; exact h6
    · have e1 : (w_I (bo_c c nb) 1 2 (nI nb + 1)).1 139 = c.1 139 := (rI_nc (by decide)).trans (on1 139 (by omega)).1
      have e2 : (w_I (bo_c c nb) 1 2 (nI nb + 1)).1 142 = c.1 142 := (rI_nc (by decide)).trans (on1 142 (by omega)).1
      have e3 : (w_I (bo_c c nb) 1 2 (nI nb + 1)).1 143 = c.1 143 := (rI_nc (by decide)).trans (on1 143 (by omega)).1
      have e4 : (w_I (bo_d d nb) 150 1 (nI nb + 1)).1 161 = d.1 161 := (rI_nc (by decide)).trans (d1 161 (by decide) (by decide) (by decide)).1
      have e5 : ∀ b, (w_I (bo_d d nb) 150 1 (nI nb + 1)).1 163 b = if b = nb then -1 else d.1 163 b := fun b => (rI_ne (by omega)).trans bo_d3
      refine ⟨?_, fun b hb5 => ?_⟩
      · rw [e1, e2, e4, rI_ne (by omega), (d1 150 (by decide) (by decide) (by decide)).1]; exact h7.1
      · rw [e3, e5]
        obtain ⟨p1, p2⟩ := h7.2 b hb5
        by_cases hbn : b = nb
        · rw [if_pos hbn]
          exact ⟨p1.trans (p2 (by omega)), fun _ => rfl⟩
        · rw [if_neg hbn]
          exact ⟨p1, fun q => p2 (by omega)⟩
    · have e1 : (w_I (bo_c c nb) 1 2 (nI nb + 1)).1 146 = c.1 146 := (rI_nc (by decide)).trans (on1 146 (by omega)).1
      have e2 : (w_I (bo_c c nb) 1 2 (nI nb + 1)).2 147 = c.2 147 := (on1 147 (by omega)).2
      have e3 : (w_I (bo_d d nb) 150 1 (nI nb + 1)).1 173 = d.1 173 := (rI_nc (by decide)).trans (d1 173 (by decide) (by decide) (by decide)).1
      have e4 : (w_I (bo_d d nb) 150 1 (nI nb + 1)).1 174 = d.1 174 := (rI_nc (by decide)).trans (d1 174 (by decide) (by decide) (by decide)).1
      have e5 : (w_I (bo_d d nb) 150 1 (nI nb + 1)).1 175 = d.1 175 := (rI_nc (by decide)).trans (d1 175 (by decide) (by decide) (by decide)).1
      unfold iv_9
      rw [e1, e2, e3, e4, e5, rI_ne (by omega), (d1 150 (by decide) (by decide) (by decide)).1]; exact h9
    · have e1 : (w_I (bo_c c nb) 1 2 (nI nb + 1)).1 146 = c.1 146 := (rI_nc (by decide)).trans (on1 146 (by omega)).1
      unfold iv_10
      rw [e1, rI_ne (by omega), rI_ne (by omega), rI_ne (by omega), (d1 150 (by decide) (by decide) (by decide)).1]; exact h10
  · have hb5 : nb = 5 := by omega
    subst hb5
    refine ⟨-2, c, d, ?_, md_.rf c, ?_, cl_.rf d, iv⟩
    · rw [fn_X11_body, a5, if_neg (by decide)]
    · rw [fn_X12_body, a6, if_pos (by decide)]
end XT_
