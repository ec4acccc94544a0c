/-! making objects and arrays -/
def xm_nw (σ : xm_S) (kd n : Nat) : xm_S := (σ.1 + 1, xm_u1 σ.2.1 σ.1 (kd, n), xm_u1 σ.2.2.1 σ.1 (fun _ => none), xm_u1 σ.2.2.2.1 σ.1 (fun _ => 0), xm_u1 σ.2.2.2.2 σ.1 (fun _ => 0))
theorem xm_push {G : xm_G} {base : Nat} {σ : xm_S} {kd n : Nat} {e : va_E} (he : xm_ent G base (xm_nw σ kd n) σ.1 = e) : xm_ws G base σ ++ [(base + σ.1, e)] = xm_ws G base (xm_nw σ kd n) := by
  unfold xm_ws
  show _ = List.map _ (List.range (σ.1 + 1))
  rw [List.range_succ, List.map_append, List.map_cons, List.map_nil, he]
  congr 1
  refine List.map_congr_left (fun k hk => ?_)
  have hne : k ≠ σ.1 := Nat.ne_of_lt (List.mem_range.mp hk)
  rw [xm_ent_congr (σ' := xm_nw σ kd n) (xm_u1_ne hne) (xm_u1_ne hne) (xm_u1_ne hne) (xm_u1_ne hne)]
theorem xm_fresh {G : xm_G} {base q : Nat} {σ : xm_S} {e : va_E} {H : Heap} (hD : va_D (fun q => base ≤ q) (xm_ws G base σ ++ [(q, e)])) (hP : va_P G.1 vwCl (xm_ws G base σ ++ [(q, e)]) H) (hz : H.size ≤ base + σ.1 + 1) : q = base + σ.1 := by
  have hl : (xm_ws G base σ).length = σ.1 := by simp [xm_ws]
  have h1 : (xm_ws G base σ ++ [(q, e)])[σ.1]? = some (q, e) := by
    rw [List.getElem?_append_right (by omega), hl]; simp
  have h2 := (hP _ _ h1).lt
  have h3 : base ≤ q := hD.2 _ _ h1
  dsimp only at h2
  by_cases hq : q = base + σ.1
  · exact hq
  · have hlt : q - base < σ.1 := by omega
    have h4 : (xm_ws G base σ ++ [(q, e)])[q - base]? = some (base + (q - base), xm_ent G base σ (q - base)) := by
      rw [List.getElem?_append_left (by omega)]
      exact xm_ws_at hlt
    have := hD.1 _ _ _ _ h4 h1 (by show base + (q - base) = q; omega)
    omega
def xm_fd (ci : Nat) (N : Nat) (ty : Nat → FieldType) : Prop := ∀ j, j < N → (xm_ft ci)[j]? = some (xm_tk (ty j)) ∧ xm_tk (ty j) ≠ 9
theorem xm_dflt {base : Nat} {σ : xm_S} {ci n N : Nat} {ty : Nat → FieldType} (h : xm_fd ci N ty) (j : Nat) (hj : j < N) : defaultValue (ty j) = vp_V ((xm_ft ci).mapIdx (fun j t => xm_val base (xm_nw σ ci n) σ.1 j t)) j := by
  obtain ⟨h1, h2⟩ := h j hj
  unfold vp_V
  rw [List.getD_eq_getElem?_getD, List.getElem?_mapIdx, h1]
  show _ = xm_val base (xm_nw σ ci n) σ.1 j (xm_tk (ty j))
  cases hq : ty j <;> rw [hq] at h2 <;> first | (exact absurd rfl h2) | (simp [xm_tk, xm_val, xm_nw, xm_u1, defaultValue, va_rf])
section XR_
variable {α S : Type} {em : α → Option Value} {sg : S → xm_S} {M : xm_M} {pc n idx bc bs bc' bs' : Nat} {lv : List (Option Value)} {st : List Value} {σ σ1 : S} {o : Option (α × S)}
theorem xs_new {ci N : Nat} {C : String} {T : u_T} {ty : Nat → FieldType} (hd : decode M.2.1 pc = .ok (.new idx, 3)) (hn : pc + 3 = n) (hw : Cond.classLink M.1.cls idx C ∈ xm_tb) (hinst : Cond.instantiable C N ∈ xm_tb) (hini : Cond.initialized C ∈ xm_tb) (hcl : xm_cl ci C T N ty) (hfd : xm_fd ci N ty) (h1 : sg σ1 = xm_nw (sg σ) ci 0) (hb : bc' + 1 ≤ bc ∧ bs' + N ≤ bs) (k : xs_ em sg M n lv (.ref (sg σ).1 :: st) σ1 bc' bs' o) : xs_ em sg M pc lv st σ bc bs o := by
  subst hn
  intro r σ' ho G base b L xs l p e R s m args below meth c H locs cells slots ls Q hC hf hlo hc hs hL hW hz hS kret
  refine va_new (ci := ci) (fs := (xm_ft ci).mapIdx (fun j t => xm_val base (xm_nw (sg σ) ci 0) (sg σ).1 j t)) hC.1 hC.2.1 hC.2.2.2.2.2.1 hcl.2.1 ty hcl.2.2.2.1 hC.2.2.2.2.1 (hC.2.2.2.2.2.1 _ hw) (hC.2.2.2.2.2.1 _ hinst) (hC.2.2.2.2.2.1 _ hini) hC.2.2.2.2.2.2.2.2.1 hW xm_D hS (fun q hq => Nat.le_trans hC.2.2.2.2.2.2.2.2.2.1 hq) hcl.1 (fun j hj => xm_dflt hfd j hj) (by omega) (by omega) hd (fun q H1 hP1 hD1 hS1 => ?_)
  intro T0 hT0 X0
  have hz1 : H1.size ≤ base + (sg σ).1 + 1 := by
    have : T0.heap.size ≤ s.heap.size + (cells + 1) := X0.same.2.2.1
    rw [hT0] at this
    omega
  have hq := xm_fresh hD1 hP1 hz1
  subst hq
  rw [xm_push (n := 0) (xm_ent_ob hcl.2.2.1 (by show xm_u1 _ _ _ _ = _; rw [xm_u1_eq]))] at hP1
  exact k r σ' ho G base b L xs l p e R s m args below meth c H1 locs (cells + 1) (slots + N) ls Q hC hf hlo (by omega) (by omega) hL (by rw [h1]; exact hP1) (by rw [h1]; show _ = base + ((sg σ).1 + 1); omega) hS1 (fun H2 locs2 cells2 slots2 pc2 ls2 h1 h2 => kret H2 locs2 cells2 slots2 pc2 ls2 (by omega) (by omega)) T0 hT0 X0
theorem tb_ar13 : Cond.arrayClass (newarray.typeOf .int) ∈ xm_tb := by decide +kernel
theorem xs_newa13 {nn : Int32} {N : Nat} (hd : decode M.2.1 pc = .ok (.newarray .int, 2)) (hn : pc + 2 = n) (h0 : ¬ nn < 0) (hN : nn.toNatClampNeg = N) (hby : N * componentBytes (newarray.typeOf .int) ≤ 536870912) (h1 : sg σ1 = xm_nw (sg σ) 13 N) (hb : bc' + 1 ≤ bc ∧ bs' + N ≤ bs) (k : xs_ em sg M n lv (.ref (sg σ).1 :: st) σ1 bc' bs' o) : xs_ em sg M pc lv (.int nn :: st) σ bc bs o := by
  subst hn
  intro r σ' ho G base b L xs l p e R s m args below meth c H locs cells slots ls Q hC hf hlo hc hs hL hW hz hS kret
  refine va_newa (a0 := (N, .inl (fun _ => 0))) hC.1 hC.2.1 (hC.2.2.2.2.2.1 _ tb_ar13) rfl hC.2.2.2.2.2.2.2.2.1 hW xm_D hS (fun q hq => Nat.le_trans hC.2.2.2.2.2.2.2.2.2.1 hq) (fun cA => rfl) h0 hN hby (by omega) (by omega) hd (fun q cA H1 hK1 hP1 hD1 hS1 => ?_)
  have hcA : cA = G.2.1 := by
    have e1 := (hK1.2 5 (cA, .int) rfl).2
    have e2 := (hC.2.2.2.2.2.2.2.2.1.2 0 (G.2.1, .int) rfl).2
    exact Option.some.inj ((show s.vm.findClass _ = some cA from e1).symm.trans (show s.vm.findClass _ = some _ from e2))
  subst hcA
  intro T0 hT0 X0
  have hz1 : H1.size ≤ base + (sg σ).1 + 1 := by
    have : T0.heap.size ≤ s.heap.size + (cells + 1) := X0.same.2.2.1
    rw [hT0] at this
    omega
  have hq := xm_fresh hD1 hP1 hz1
  subst hq
  rw [xm_push (kd := 13) (n := N) (by simp [xm_ent, xm_nw, xm_u1])] at hP1
  exact k r σ' ho G base b L xs l p e R s m args below meth c H1 locs (cells + 1) (slots + N) ls Q hC hf hlo (by omega) (by omega) hL (by rw [h1]; exact hP1) (by rw [h1]; show _ = base + ((sg σ).1 + 1); omega) hS1 (fun H2 locs2 cells2 slots2 pc2 ls2 h1 h2 => kret H2 locs2 cells2 slots2 pc2 ls2 (by omega) (by omega)) T0 hT0 X0
theorem tb_ar14 : Cond.arrayClass (newarray.typeOf .long) ∈ xm_tb := by decide +kernel
theorem xs_newa14 {nn : Int32} {N : Nat} (hd : decode M.2.1 pc = .ok (.newarray .long, 2)) (hn : pc + 2 = n) (h0 : ¬ nn < 0) (hN : nn.toNatClampNeg = N) (hby : N * componentBytes (newarray.typeOf .long) ≤ 536870912) (h1 : sg σ1 = xm_nw (sg σ) 14 N) (hb : bc' + 1 ≤ bc ∧ bs' + N ≤ bs) (k : xs_ em sg M n lv (.ref (sg σ).1 :: st) σ1 bc' bs' o) : xs_ em sg M pc lv (.int nn :: st) σ bc bs o := by
  subst hn
  intro r σ' ho G base b L xs l p e R s m args below meth c H locs cells slots ls Q hC hf hlo hc hs hL hW hz hS kret
  refine va_newa (a0 := (N, .inr (.inl (fun _ => 0)))) hC.1 hC.2.1 (hC.2.2.2.2.2.1 _ tb_ar14) rfl hC.2.2.2.2.2.2.2.2.1 hW xm_D hS (fun q hq => Nat.le_trans hC.2.2.2.2.2.2.2.2.2.1 hq) (fun cA => rfl) h0 hN hby (by omega) (by omega) hd (fun q cA H1 hK1 hP1 hD1 hS1 => ?_)
  have hcA : cA = G.2.2.1 := by
    have e1 := (hK1.2 5 (cA, .long) rfl).2
    have e2 := (hC.2.2.2.2.2.2.2.2.1.2 1 (G.2.2.1, .long) rfl).2
    exact Option.some.inj ((show s.vm.findClass _ = some cA from e1).symm.trans (show s.vm.findClass _ = some _ from e2))
  subst hcA
  intro T0 hT0 X0
  have hz1 : H1.size ≤ base + (sg σ).1 + 1 := by
    have : T0.heap.size ≤ s.heap.size + (cells + 1) := X0.same.2.2.1
    rw [hT0] at this
    omega
  have hq := xm_fresh hD1 hP1 hz1
  subst hq
  rw [xm_push (kd := 14) (n := N) (by simp [xm_ent, xm_nw, xm_u1])] at hP1
  exact k r σ' ho G base b L xs l p e R s m args below meth c H1 locs (cells + 1) (slots + N) ls Q hC hf hlo (by omega) (by omega) hL (by rw [h1]; exact hP1) (by rw [h1]; show _ = base + ((sg σ).1 + 1); omega) hS1 (fun H2 locs2 cells2 slots2 pc2 ls2 h1 h2 => kret H2 locs2 cells2 slots2 pc2 ls2 (by omega) (by omega)) T0 hT0 X0
theorem tb_ar15 : Cond.arrayClass (newarray.typeOf .boolean) ∈ xm_tb := by decide +kernel
theorem xs_newa15 {nn : Int32} {N : Nat} (hd : decode M.2.1 pc = .ok (.newarray .boolean, 2)) (hn : pc + 2 = n) (h0 : ¬ nn < 0) (hN : nn.toNatClampNeg = N) (hby : N * componentBytes (newarray.typeOf .boolean) ≤ 536870912) (h1 : sg σ1 = xm_nw (sg σ) 15 N) (hb : bc' + 1 ≤ bc ∧ bs' + N ≤ bs) (k : xs_ em sg M n lv (.ref (sg σ).1 :: st) σ1 bc' bs' o) : xs_ em sg M pc lv (.int nn :: st) σ bc bs o := by
  subst hn
  intro r σ' ho G base b L xs l p e R s m args below meth c H locs cells slots ls Q hC hf hlo hc hs hL hW hz hS kret
  refine va_newa (a0 := (N, .inl (fun _ => 0))) hC.1 hC.2.1 (hC.2.2.2.2.2.1 _ tb_ar15) rfl hC.2.2.2.2.2.2.2.2.1 hW xm_D hS (fun q hq => Nat.le_trans hC.2.2.2.2.2.2.2.2.2.1 hq) (fun cA => rfl) h0 hN hby (by omega) (by omega) hd (fun q cA H1 hK1 hP1 hD1 hS1 => ?_)
  have hcA : cA = G.2.2.2.1 := by
    have e1 := (hK1.2 5 (cA, .boolean) rfl).2
    have e2 := (hC.2.2.2.2.2.2.2.2.1.2 2 (G.2.2.2.1, .boolean) rfl).2
    exact Option.some.inj ((show s.vm.findClass _ = some cA from e1).symm.trans (show s.vm.findClass _ = some _ from e2))
  subst hcA
  intro T0 hT0 X0
  have hz1 : H1.size ≤ base + (sg σ).1 + 1 := by
    have : T0.heap.size ≤ s.heap.size + (cells + 1) := X0.same.2.2.1
    rw [hT0] at this
    omega
  have hq := xm_fresh hD1 hP1 hz1
  subst hq
  rw [xm_push (kd := 15) (n := N) (by simp [xm_ent, xm_nw, xm_u1])] at hP1
  exact k r σ' ho G base b L xs l p e R s m args below meth c H1 locs (cells + 1) (slots + N) ls Q hC hf hlo (by omega) (by omega) hL (by rw [h1]; exact hP1) (by rw [h1]; show _ = base + ((sg σ).1 + 1); omega) hS1 (fun H2 locs2 cells2 slots2 pc2 ls2 h1 h2 => kret H2 locs2 cells2 slots2 pc2 ls2 (by omega) (by omega)) T0 hT0 X0
theorem xs_newq16 {nn : Int32} {N : Nat} (hd : decode M.2.1 pc = .ok (.anewarray idx, 3)) (hn : pc + 3 = n) (hw : Cond.classLink M.1.cls idx RX0 ∈ xm_tb) (h0 : ¬ nn < 0) (hN : nn.toNatClampNeg = N) (hby : N * 4 ≤ 536870912) (h1 : sg σ1 = xm_nw (sg σ) 16 N) (hb : bc' + 1 ≤ bc ∧ bs' + N ≤ bs) (k : xs_ em sg M n lv (.ref (sg σ).1 :: st) σ1 bc' bs' o) : xs_ em sg M pc lv (.int nn :: st) σ bc bs o := by
  subst hn
  intro r σ' ho G base b L xs l p e R s m args below meth c H locs cells slots ls Q hC hf hlo hc hs hL hW hz hS kret
  refine va_newq hC.1 hC.2.1 hC.2.2.2.2.1 (hC.2.2.2.2.2.1 _ hw) hC.2.2.2.2.2.2.2.2.2.2.2.2.2.1 hC.2.2.2.2.2.2.2.2.1 hW xm_D hS (fun q hq => Nat.le_trans hC.2.2.2.2.2.2.2.2.2.1 hq) h0 hN hby (by omega) (by omega) hd (fun q cA H1 hK1 hP1 hD1 hS1 => ?_)
  have hcA : cA = G.2.2.2.2.1 := by
    obtain ⟨_, _, _, _, _, e1⟩ := (hK1.2 5 (cA, .object RX0) rfl).2
    obtain ⟨_, _, _, _, _, e2⟩ := (hC.2.2.2.2.2.2.2.2.1.2 3 (G.2.2.2.2.1, .object RX0) rfl).2
    exact Option.some.inj (e1.symm.trans e2)
  subst hcA
  intro T0 hT0 X0
  have hz1 : H1.size ≤ base + (sg σ).1 + 1 := by
    have : T0.heap.size ≤ s.heap.size + (cells + 1) := X0.same.2.2.1
    rw [hT0] at this
    omega
  have hq := xm_fresh hD1 hP1 hz1
  subst hq
  rw [xm_push (kd := 16) (n := N) (by simp [xm_ent, xm_nw, xm_u1])] at hP1
  exact k r σ' ho G base b L xs l p e R s m args below meth c H1 locs (cells + 1) (slots + N) ls Q hC hf hlo (by omega) (by omega) hL (by rw [h1]; exact hP1) (by rw [h1]; show _ = base + ((sg σ).1 + 1); omega) hS1 (fun H2 locs2 cells2 slots2 pc2 ls2 h1 h2 => kret H2 locs2 cells2 slots2 pc2 ls2 (by omega) (by omega)) T0 hT0 X0
theorem xs_newq17 {nn : Int32} {N : Nat} (hd : decode M.2.1 pc = .ok (.anewarray idx, 3)) (hn : pc + 3 = n) (hw : Cond.classLink M.1.cls idx RX1 ∈ xm_tb) (h0 : ¬ nn < 0) (hN : nn.toNatClampNeg = N) (hby : N * 4 ≤ 536870912) (h1 : sg σ1 = xm_nw (sg σ) 17 N) (hb : bc' + 1 ≤ bc ∧ bs' + N ≤ bs) (k : xs_ em sg M n lv (.ref (sg σ).1 :: st) σ1 bc' bs' o) : xs_ em sg M pc lv (.int nn :: st) σ bc bs o := by
  subst hn
  intro r σ' ho G base b L xs l p e R s m args below meth c H locs cells slots ls Q hC hf hlo hc hs hL hW hz hS kret
  refine va_newq hC.1 hC.2.1 hC.2.2.2.2.1 (hC.2.2.2.2.2.1 _ hw) hC.2.2.2.2.2.2.2.2.2.2.2.2.2.2 hC.2.2.2.2.2.2.2.2.1 hW xm_D hS (fun q hq => Nat.le_trans hC.2.2.2.2.2.2.2.2.2.1 hq) h0 hN hby (by omega) (by omega) hd (fun q cA H1 hK1 hP1 hD1 hS1 => ?_)
  have hcA : cA = G.2.2.2.2.2 := by
    obtain ⟨_, _, _, _, _, e1⟩ := (hK1.2 5 (cA, .object RX1) rfl).2
    obtain ⟨_, _, _, _, _, e2⟩ := (hC.2.2.2.2.2.2.2.2.1.2 4 (G.2.2.2.2.2, .object RX1) rfl).2
    exact Option.some.inj (e1.symm.trans e2)
  subst hcA
  intro T0 hT0 X0
  have hz1 : H1.size ≤ base + (sg σ).1 + 1 := by
    have : T0.heap.size ≤ s.heap.size + (cells + 1) := X0.same.2.2.1
    rw [hT0] at this
    omega
  have hq := xm_fresh hD1 hP1 hz1
  subst hq
  rw [xm_push (kd := 17) (n := N) (by simp [xm_ent, xm_nw, xm_u1])] at hP1
  exact k r σ' ho G base b L xs l p e R s m args below meth c H1 locs (cells + 1) (slots + N) ls Q hC hf hlo (by omega) (by omega) hL (by rw [h1]; exact hP1) (by rw [h1]; show _ = base + ((sg σ).1 + 1); omega) hS1 (fun H2 locs2 cells2 slots2 pc2 ls2 h1 h2 => kret H2 locs2 cells2 slots2 pc2 ls2 (by omega) (by omega)) T0 hT0 X0
end XR_
