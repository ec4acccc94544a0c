theorem n13 {x : Int32} (h0 : ¬ x < 1) (h1 : x ≤ 3) : ∃ n : Nat, 1 ≤ n ∧ n ≤ 3 ∧ x = nI n := by
  have a := Int32.le_iff_toInt_le.mp (Int32.not_lt.mp h0)
  have b := Int32.le_iff_toInt_le.mp h1
  have z1 : (1 : Int32).toInt = 1 := rfl
  have z3 : (3 : Int32).toInt = 3 := rfl
  refine ⟨x.toInt.toNat, by omega, by omega, ?_⟩
  apply Int32.toInt_inj.mp
  rw [nI_u (by omega)]
  omega
def lo_c (c : xm_Y) (n : Nat) : xm_Y := w_I (w_I (w_I (w_I (w_I (w_I (w_I (w_I (w_J (w_J (w_J (w_J (w_J (w_J (w_J (w_J (w_J (w_I (w_I c 1 1 (nI n)) 1 2 0) 123 0 0) 123 1 0) 123 2 0) 130 0 0) 130 1 0) 130 2 0) 130 3 0) 130 4 0) 130 5 0) 124 2 (-1)) 139 2 0) 139 6 0) 143 0 (-1)) 143 1 (-1)) 143 2 (-1)) 143 3 (-1)) 143 4 (-1)
def lo_d (d : xm_Y) (n : Nat) : xm_Y := w_I (w_I (w_I (w_I (w_I (w_I (w_I (w_I (w_J (w_I (w_J (w_I (w_J (w_I (w_J (w_I (w_J (w_I (w_J (w_J (w_J (w_J (op_d (w_I (w_I d 150 0 (nI n)) 150 1 0)) 154 0 0) 154 1 0) 154 2 0) 157 0 0) 158 0 0) 157 1 0) 158 1 0) 157 2 0) 158 2 0) 157 3 0) 158 3 0) 157 4 0) 158 4 0) 157 5 0) 158 5 0) 150 19 0) 150 26 (-1)) 163 0 (-1)) 163 1 (-1)) 163 2 (-1)) 163 3 (-1)) 163 4 (-1)
theorem ev_loopc (k n : Nat) (h1 : 1 ≤ n) (h3 : n ≤ 3) (c : xm_Y) : fn_X11_loop (k + 10) (nI n) c = some (c.1 1 1, op_c (lo_c c n) n) := by
  rcases lt3n h1 h3 with rfl | rfl | rfl <;> rfl
theorem ev_loopd (k n : Nat) (h1 : 1 ≤ n) (h3 : n ≤ 3) (d : xm_Y) : fn_X12_loop (k + 10) (nI n) d = some (d.1 150 0, lo_d d n) := by
  rcases lt3n h1 h3 with rfl | rfl | rfl <;> rfl
section XT_
variable {PL : xm_Y → Nat → Prop} {FL : xm_Y → xm_Y → Prop} {m : Nat}
theorem tf_loop (hm : 100 ≤ m) (x : Int32) : tf_ PL FL (fn_X11_loop m x) (fn_X12_loop m x) := by
  intro c d iv
  obtain ⟨n, nb, gc, h1, h2, h3, h4, h5, h6, h7, h8, h9, h10⟩ := id iv
  by_cases hx0 : x < 1
  · exact ⟨-1, c, d, by rw [fn_X11_loop, if_pos hx0], md_.rf c, by rw [fn_X12_loop, if_pos hx0], cl_.rf d, iv⟩
  · by_cases hx1 : x ≤ 3
    · obtain ⟨n', n1, n3, rfl⟩ := n13 hx0 hx1
      obtain ⟨k, rfl⟩ := Nat.exists_eq_add_of_le' (show 10 ≤ m by omega)
      refine ⟨nI n, op_c (lo_c c n') n', lo_d d n', by rw [ev_loopc k n' n1 n3, h1.1], ?_, by rw [ev_loopd k n' n1 n3, h1.2.1], ?_, ?_⟩
      · refine md_.tr ?_ (op_md _ n')
        unfold lo_c
        exact (((((((((((((((((((md_.rf c).wI (by decide)).wI (by decide)).wJ (by decide)).wJ (by decide)).wJ (by decide)).wJ (by decide)).wJ (by decide)).wJ (by decide)).wJ (by decide)).wJ (by decide)).wJ (by decide)).wI (by decide)).wI (by decide)).wI (by decide)).wI (by decide)).wI (by decide)).wI (by decide)).wI (by decide)).wI (by decide)
      · unfold lo_d
        exact ((((((((((((((((((((((cl_.tr (((cl_.rf d).wI (by decide)).wI (by decide)) (op_cl _)).wJ (by decide)).wJ (by decide)).wJ (by decide)).wJ (by decide)).wI (by decide)).wJ (by decide)).wI (by decide)).wJ (by decide)).wI (by decide)).wJ (by decide)).wI (by decide)).wJ (by decide)).wI (by decide)).wJ (by decide)).wI (by decide)).wI (by decide)).wI (by decide)).wI (by decide)).wI (by decide)).wI (by decide)).wI (by decide)).wI (by decide)
      · refine iv_open2 (nb := 0) (gc := gc) ⟨⟨rfl, rfl, n1, n3, rfl, rfl, by decide⟩, fun b hb => absurd hb (by omega), ?_, ?_, rfl, ⟨⟨0, by decide, rfl, rfl, fun k hk => absurd hk (by omega)⟩, ?_⟩, h9, h10⟩ ?_ rfl
        · intro i hi
          rcases lt3_ hi with rfl | rfl | rfl <;> exact ⟨rfl, (show (-1000000000000 : Int) ≤ (0 : Int64).toInt by decide), (show (0 : Int64).toInt ≤ (1000000000000 : Int) by decide), fun _ => rfl⟩
        · intro i hi
          rcases lt6_ hi with rfl | rfl | rfl | rfl | rfl | rfl <;> exact Or.inr ⟨rfl, rfl, (show (-1000000 : Int) ≤ (0 : Int64).toInt by decide), (show (0 : Int64).toInt ≤ (1000000 : Int) by decide), fun _ => rfl⟩
        · intro b hb
          rcases lt5_ hb with rfl | rfl | rfl | rfl | rfl <;> exact ⟨rfl, fun _ => rfl⟩
        · intro e he
          rcases lt6_ he with rfl | rfl | rfl | rfl | rfl | rfl <;> rfl
    · exact ⟨-1, c, d, by rw [fn_X11_loop, if_neg hx0, if_neg hx1], md_.rf c, by rw [fn_X12_loop, if_neg hx0, if_neg hx1], cl_.rf d, iv⟩
end XT_
