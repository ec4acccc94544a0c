/-! the two constructors, run; from the law's entry to its loop -/
def xi_0 : xm_S := (0, fun _ => (18, 0), fun _ _ => none, fun _ _ => 0, fun _ _ => 0)
def xi_1 : xm_S := ((gn_X11_init 10 0 (xm_nw xi_0 11 0)).getD ((), xi_0)).2
def xi_2 : xm_S := ((gn_X12_init 10 150 (xm_nw xi_1 12 0)).getD ((), xi_0)).2
def lw_u0 : xm_Y := (xi_2.2.2.2.1, xi_2.2.2.2.2)
theorem xi_s1 : (gn_X11_init 10 0 (xm_nw xi_0 11 0)).isSome = true := by decide +kernel
theorem xi_s2 : (gn_X12_init 10 150 (xm_nw xi_1 12 0)).isSome = true := by decide +kernel
theorem xi_k1 : xi_1.1 = 150 := by decide +kernel
theorem xi_k2 : xi_2.1 = 183 := by decide +kernel
theorem xi_e {o : Option (Unit × xm_S)} {z : Unit × xm_S} (h : o.isSome = true) : o = some ((), (o.getD z).2) := by
  cases o with
  | none => cases h
  | some q => rfl
theorem xi_e1 : gn_X11_init 10 0 (xm_nw xi_0 11 0) = some ((), xi_1) := xi_e xi_s1
theorem xi_e2 : gn_X12_init 10 150 (xm_nw xi_1 12 0) = some ((), xi_2) := xi_e xi_s2
theorem xi_sh : ∀ k, k < 183 → xi_2.2.1 k = sl_S k := by decide +kernel
theorem xi_rf : ((List.range 183).all fun k => (List.range (sl_rf.getD k []).length).all fun j => decide (xi_2.2.2.1 k j = sl_R k j)) = true := by decide +kernel
theorem xi_r {k j : Nat} (hk : k < 183) (hj : j < (sl_rf.getD k []).length) : xi_2.2.2.1 k j = sl_R k j := by
  have h1 := List.all_eq_true.mp xi_rf k (List.mem_range.mpr hk)
  exact of_decide_eq_true (List.all_eq_true.mp h1 j (List.mem_range.mpr hj))
theorem xi_ln : ((List.range 183).all fun k => decide (((sl_S k).1 < 13 → (xm_ft (sl_S k).1).length ≤ (sl_rf.getD k []).length) ∧ ((sl_S k).1 = 16 → (sl_S k).2 ≤ (sl_rf.getD k []).length) ∧ ((sl_S k).1 = 17 → (sl_S k).2 ≤ (sl_rf.getD k []).length) ∧ (sl_S k).1 < 18)) = true := by decide +kernel
theorem xi_l {k : Nat} (hk : k < 183) : ((sl_S k).1 < 13 → (xm_ft (sl_S k).1).length ≤ (sl_rf.getD k []).length) ∧ ((sl_S k).1 = 16 → (sl_S k).2 ≤ (sl_rf.getD k []).length) ∧ ((sl_S k).1 = 17 → (sl_S k).2 ≤ (sl_rf.getD k []).length) ∧ (sl_S k).1 < 18 := of_decide_eq_true (List.all_eq_true.mp xi_ln k (List.mem_range.mpr hk))
theorem arr_cg {cA : ClassId} {n : Nat} {f g : Nat → Value} (h : ∀ j, j < n → f j = g j) : arrV cA n f = arrV cA n g := by
  unfold arrV
  congr 2
  funext j
  exact h j.val j.isLt
theorem xi_swg {σ : xm_S} {μ : xm_Y} (hI : μ.1 = σ.2.2.2.1) (hJ : μ.2 = σ.2.2.2.2) (xi_k2 : σ.1 = 183) (xi_sh : ∀ k, k < 183 → σ.2.1 k = sl_S k) (xi_r : ∀ {k j : Nat}, k < 183 → j < (sl_rf.getD k []).length → σ.2.2.1 k j = sl_R k j) {G : xm_G} {base : Nat} {H : Heap} (h : xm_W G base σ H) : xm_W G base (sg_0 μ) H := by
  intro k q hq
  obtain ⟨hk, rfl⟩ := xm_ws_inv hq
  have hk : k < 183 := hk
  have h0 := h k _ (xm_ws_at (by rw [xi_k2]; exact hk))
  have hs : σ.2.1 k = (sg_0 μ).2.1 k := xi_sh k hk
  obtain ⟨l1, l2, l3, l4⟩ := xi_l hk
  have hss : (sg_0 μ).2.1 k = sl_S k := rfl
  generalize hK : sl_S k = kd at l1 l2 l3 l4 hss
  obtain ⟨kd, nn⟩ := kd
  rw [hss] at hs
  dsimp only at l1 l2 l3 l4
  by_cases h13 : kd < 13
  · rw [xm_ent_ob h13 hs] at h0
    rw [xm_ent_ob h13 hss]
    have e1 : (xm_ft kd).mapIdx (fun j t => xm_val base (sg_0 μ) k j t) = (xm_ft kd).mapIdx (fun j t => xm_val base σ k j t) := by
      apply List.ext_getElem?
      intro i
      rw [List.getElem?_mapIdx, List.getElem?_mapIdx]
      by_cases hi : i < (xm_ft kd).length
      · rw [List.getElem?_eq_getElem hi]
        have e2 : xm_val base (sg_0 μ) k i (xm_ft kd)[i] = xm_val base σ k i (xm_ft kd)[i] := by
          unfold xm_val
          rw [xi_r hk (Nat.lt_of_lt_of_le hi (l1 h13)), ← hI, ← hJ]
        simp [e2]
      · rw [List.getElem?_eq_none (by omega)]
        rfl
    rw [e1]
    exact h0
  · unfold xm_ent at h0 ⊢
    rw [hs] at h0
    rw [hss]
    dsimp only at h0 ⊢
    have hc : kd = 13 ∨ kd = 14 ∨ kd = 15 ∨ kd = 16 ∨ kd = 17 := by omega
    rw [← hI, ← hJ] at h0
    rcases hc with rfl | rfl | rfl | rfl | rfl
    · exact h0
    · exact h0
    · exact h0
    · refine Eq.trans (show H[base + k]? = _ from h0) (congrArg some ?_)
      rw [vp_cell_q, vp_cell_q]
      refine arr_cg (fun j hj => ?_)
      rw [xi_r hk (Nat.lt_of_lt_of_le hj (l2 rfl))]
    · refine Eq.trans (show H[base + k]? = _ from h0) (congrArg some ?_)
      rw [vp_cell_q, vp_cell_q]
      refine arr_cg (fun j hj => ?_)
      rw [xi_r hk (Nat.lt_of_lt_of_le hj (l3 rfl))]
theorem xi_sw {G : xm_G} {base : Nat} {H : Heap} (h : xm_W G base xi_2 H) : xm_W G base (sg_0 lw_u0) H := by
  have hI : lw_u0.1 = xi_2.2.2.2.1 := by rw [lw_u0]
  have hJ : lw_u0.2 = xi_2.2.2.2.2 := by rw [lw_u0]
  have hk := xi_k2
  have hs := xi_sh
  have hr : ∀ {k j : Nat}, k < 183 → j < (sl_rf.getD k []).length → xi_2.2.2.1 k j = sl_R k j := fun hk hj => xi_r hk hj
  generalize lw_u0 = μ at hI hJ ⊢
  generalize xi_2 = σ at hI hJ hk hs hr h
  exact xi_swg hI hJ hk hs hr h
section XR_
variable {α β S αN : Type} {em : α → Option Value} {emN : αN → Option Value} {sg : S → xm_S} {M N : xm_M} {pc n na idx mc ms bc bs bc' bs' : Nat} {lv lv0 : List (Option Value)} {stk rest As st : List Value} {σ σ1 : S} {oN : Option (αN × S)} {o : Option (α × S)} {L : Nat} {xs : Nat → Int32}
theorem xq_callk {kk : Nat} (hd : decode M.2.1 pc = .ok (.invokespecial idx, 3)) (hn : pc + 3 = n) (hok : xm_ok N na) (hw : Cond.methodLink M.1.cls idx N.1 ∈ xm_tb) (hin : Cond.instanceMethod N.1 ∈ xm_tb) (hname : N.1.name = "<init>") (hret : N.2.2.2.1 = none) (hR : N.2.2.2.2.1 + 1 ≤ M.2.2.2.2.1 ∧ 8 + (N.2.2.1 + 11) + N.2.2.2.2.2 ≤ M.2.2.2.2.2) (As : List Value) (rest : List Value) (hstk : stk = As.reverse ++ .ref kk :: rest) (hla : As.length = na) (hlen : (lg_sl (.ref kk :: As)).length ≤ N.2.2.1) (he : xm_en N.2.2.1 (.ref kk :: As) = lv0) (hrest : (rest.map fun v => v.category).sum ≤ 8) (hb : bc' + mc ≤ bc ∧ bs' + ms ≤ bs) {v : αN} {σ1 : S} (hoN : oN = some (v, σ1)) (hKv : (sg σ1).1 = (sg σ).1 + mc) (hN : xs_ emN sg N 0 lv0 [] σ mc ms oN) (k : xq_ L xs em sg M n lv ((emN v).toList ++ rest) σ1 bc' bs' o) : xq_ L xs em sg M pc lv stk σ bc bs o := by
  subst hn
  intro r σ' ho G base b l p e R s m args below meth c H locs cells slots ls Q hC hf hlo hc hs hL hW hz hS kret
  have hM := xm_met hok hN he hlen hoN G base b L xs l
  obtain ⟨hx, hbb, hrt, hml, hown, hts, hlk, hnm, hK, hbs, hX, hbl, hNw⟩ := id hC
  intro T0 hT0 X0
  have hsz := xm_size X0 hT0 hW hz hbs
  refine (?_ : W p l e R s m args below meth c H locs cells slots Q (F0 m pc ls (stk.map (xm_r base b)))) T0 hT0 X0
  refine xm_after (G := G) (base := base) (b := b) (v := emN v) (σ' := sg σ1) (mc := mc) (ms := ms) (rest := rest.map (xm_r base b)) (a := (Value.ref (base + kk) :: As.map (xm_r base b)).toArray) ?_ hS (fun H1 locs1 hW1 hS1 => ?_)
  · exact va_runI (As := As.map (xm_r base b)) (rest := rest.map (xm_r base b)) ⟨hx, hbb, hml, hown, hts⟩ hM ⟨callB_of na hts (xm_goodin hok.2.1) (by rw [xm_wsM, hret]) rfl rfl (hts _ hok.2.2.1) (hts _ hw) hok.2.2.2 ⟨Nat.le_trans hR.1 hf, Nat.le_trans hR.2 hlo⟩, hname, hts _ hin⟩ ⟨xm_blind, fun U hU hWm => ⟨rfl, by rw [hU]; exact hsz, by rw [hU]; exact hW, va_K.moved hWm.alike hK, by rw [hU]; exact (hX.kept (hS.2.1 b (Nat.lt_of_lt_of_le hbl hbs) (Nat.not_le.mpr hbl))).moved hWm.alike, hbl, hNw.moved hWm⟩⟩ rfl (by rw [List.length_map]; exact hla) hL.size (by subst hstk; simp [xm_r]) (by show 2 * 0 + _ ≤ 8; rw [xm_cats]; omega) hd ⟨by show cells + mc ≤ R.cells; omega, by show slots + ms ≤ R.slots; omega⟩
  · have hk2 := k r σ' ho G base b l p e R s m args below meth c H1 locs1 (cells + mc) (slots + ms) ls Q hC hf hlo (by omega) (by omega) hL hW1 (by rw [hKv]; omega) hS1 (fun H2 locs2 cells2 slots2 pc2 ls2 h1 h2 => kret H2 locs2 cells2 slots2 pc2 ls2 (by omega) (by omega))
    cases hem : emN v <;> rw [hem] at hk2 <;> exact hk2
theorem xq_new {ci N : Nat} {C : String} {T : u_T} {ty : Nat → FieldType} (hd : decode M.2.1 pc = .ok (.new idx, 3)) (hn : pc + 3 = n) (hw : Cond.classLink M.1.cls idx C ∈ xm_tb) (hinst : Cond.instantiable C N ∈ xm_tb) (hini : Cond.initialized C ∈ xm_tb) (hcl : xm_cl ci C T N ty) (hfd : xm_fd ci N ty) (h1 : sg σ1 = xm_nw (sg σ) ci 0) (hb : bc' + 1 ≤ bc ∧ bs' + N ≤ bs) (k : xq_ L xs em sg M n lv (.ref (sg σ).1 :: st) σ1 bc' bs' o) : xq_ L xs em sg M pc lv st σ bc bs o := by
  subst hn
  intro r σ' ho G base b l p e R s m args below meth c H locs cells slots ls Q hC hf hlo hc hs hL hW hz hS kret
  refine va_new (ci := ci) (fs := (xm_ft ci).mapIdx (fun j t => xm_val base (xm_nw (sg σ) ci 0) (sg σ).1 j t)) hC.1 hC.2.1 hC.2.2.2.2.2.1 hcl.2.1 ty hcl.2.2.2.1 hC.2.2.2.2.1 (hC.2.2.2.2.2.1 _ hw) (hC.2.2.2.2.2.1 _ hinst) (hC.2.2.2.2.2.1 _ hini) hC.2.2.2.2.2.2.2.2.1 hW xm_D hS (fun q hq => Nat.le_trans hC.2.2.2.2.2.2.2.2.2.1 hq) hcl.1 (fun j hj => xm_dflt hfd j hj) (by omega) (by omega) hd (fun q H1 hP1 hD1 hS1 => ?_)
  intro T0 hT0 X0
  have hz1 : H1.size ≤ base + (sg σ).1 + 1 := by
    have : T0.heap.size ≤ s.heap.size + (cells + 1) := X0.same.2.2.1
    rw [hT0] at this
    omega
  have hq := xm_fresh hD1 hP1 hz1
  subst hq
  rw [xm_push (n := 0) (xm_ent_ob hcl.2.2.1 (by show xm_u1 _ _ _ _ = _; rw [xm_u1_eq]))] at hP1
  exact k r σ' ho G base b l p e R s m args below meth c H1 locs (cells + 1) (slots + N) ls Q hC hf hlo (by omega) (by omega) hL (by rw [h1]; exact hP1) (by rw [h1]; show _ = base + ((sg σ).1 + 1); omega) hS1 (fun H2 locs2 cells2 slots2 pc2 ls2 h1 h2 => kret H2 locs2 cells2 slots2 pc2 ls2 (by omega) (by omega)) T0 hT0 X0
theorem xq_sw {σ : xm_S} {μ : xm_Y} {o : Option (α × xm_Y)} (hsw : ∀ (G : xm_G) (base : Nat) (H : Heap), xm_W G base σ H → xm_W G base (sg_0 μ) H) (hK : σ.1 = 183) (k : xq_ L xs em sg_0 M pc lv st μ bc bs o) : xq_ L xs em sg_i M pc lv st σ bc bs (o.map (fun q => (q.1, sg_0 q.2))) := by
  intro r σ' ho G base b l p e R s m args below meth c H locs cells slots ls Q hC hf hlo hc hs hL hW hz hS kret
  cases o with
  | none => cases ho
  | some q =>
    cases ho
    exact k q.1 q.2 rfl G base b l p e R s m args below meth c H locs cells slots ls Q hC hf hlo hc hs hL (hsw G base H hW) (by rw [hz]; show base + σ.1 = base + 183; rw [hK]) hS kret
end XR_
theorem tw_17 : (Cond.classLink "EndingCourtLaw" (7 : Nat) "EndingCourt") ∈ xm_tb := ms_1 (List.mem_of_getElem? (i := 17) (by decide +kernel)) rfl
theorem tw_18 : (Cond.instantiable "EndingCourt" (10 : Nat)) ∈ xm_tb := ms_1 (List.mem_of_getElem? (i := 18) (by decide +kernel)) rfl
theorem tw_1 : (Cond.initialized "EndingCourt") ∈ xm_tb := ms_1 (List.mem_of_getElem? (i := 1) (by decide +kernel)) rfl
theorem tw_856 : (Cond.classLink "EndingCourtLaw" (10 : Nat) "EndingCourtModel") ∈ xm_tb := ms_4 (List.mem_of_getElem? (i := 136) (by decide +kernel)) rfl
theorem tw_857 : (Cond.instantiable "EndingCourtModel" (50 : Nat)) ∈ xm_tb := ms_4 (List.mem_of_getElem? (i := 137) (by decide +kernel)) rfl
theorem tw_14 : (Cond.initialized "EndingCourtModel") ∈ xm_tb := ms_1 (List.mem_of_getElem? (i := 14) (by decide +kernel)) rfl
theorem tw_19 : Cond.methodLink RL 9 yX11_init ∈ xm_tb := ms_1 (List.mem_of_getElem? (i := 19) (by decide +kernel)) rfl
theorem tw_858 : Cond.methodLink RL 12 yX12_init ∈ xm_tb := ms_4 (List.mem_of_getElem? (i := 138) (by decide +kernel)) rfl
theorem lw_go {m0 L : Nat} {xs : Nat → Int32} {q : Int32 × xm_Y} (hp : lw_lp m0 L xs m0 0 lw_u0 = some (.inr q)) : xq_ L xs (fun x : Int32 => some (.int x)) sg_i mt_L_law 0 [some (.float 0), none, none, none] [] xi_0 183 72447 (some ((1 : Int32), sg_0 q.2)) := by
  refine xq_new (n := 3) (σ1 := xm_nw xi_0 11 0) dL_law_0 rfl tw_17 tw_18 tw_1 xc_11 xd_11 rfl (bc' := 182) (bs' := 72437) ⟨by decide, by decide⟩ ?_
  refine xq_dup (n := 4) dL_law_3 rfl rfl ?_
  refine xq_callk (n := 7) (N := mt_X11_init) (mc := 149) (ms := 6134) (bc' := 33) (bs' := 66303) (v := ()) (σ1 := xi_1) dL_law_4 rfl ok_X11_init tw_19 im_X11_init rfl rfl ⟨Nat.le_of_ble_eq_true rfl, Nat.le_of_ble_eq_true rfl⟩ [] [.ref 0] rfl rfl (Nat.le_of_ble_eq_true rfl) rfl (Nat.le_of_ble_eq_true rfl) ⟨by decide, by decide⟩ xi_e1 xi_k1 (gm_X11_init 10 0 (xm_nw xi_0 11 0)) ?_
  show xq_ L xs (fun x : Int32 => some (.int x)) sg_i mt_L_law 7 [some (.float 0), none, none, none] [.ref 0] xi_1 33 66303 (some ((1 : Int32), sg_0 q.2))
  refine xq_astore_n (n := 8) (lv' := [some (.float 0), some (.ref 0), none, none]) dL_law_7 rfl (Nat.le_of_ble_eq_true rfl) rfl ?_
  refine xq_new (n := 11) (σ1 := xm_nw xi_1 12 0) dL_law_8 rfl tw_856 tw_857 tw_14 xc_12 xd_12 rfl (bc' := 32) (bs' := 66253) ⟨by decide, by decide⟩ ?_
  have e150 : (sg_i xi_1).1 = 150 := xi_k1
  rw [e150]
  refine xq_dup (n := 12) dL_law_11 rfl rfl ?_
  refine xq_callk (n := 15) (N := mt_X12_init) (mc := 32) (ms := 66253) (bc' := 0) (bs' := 0) (v := ()) (σ1 := xi_2) dL_law_12 rfl ok_X12_init tw_858 im_X12_init rfl rfl ⟨Nat.le_of_ble_eq_true rfl, Nat.le_of_ble_eq_true rfl⟩ [] [.ref 150] rfl rfl (Nat.le_of_ble_eq_true rfl) rfl (Nat.le_of_ble_eq_true rfl) ⟨by decide, by decide⟩ xi_e2 (by show xi_2.1 = (xi_1.1 + 1) + 32; rw [xi_k1, xi_k2]) (gm_X12_init 10 150 (xm_nw xi_1 12 0)) ?_
  show xq_ L xs (fun x : Int32 => some (.int x)) sg_i mt_L_law 15 [some (.float 0), some (.ref 0), none, none] [.ref 150] xi_2 0 0 (some ((1 : Int32), sg_0 q.2))
  refine xq_astore_n (n := 16) (lv' := [some (.float 0), some (.ref 0), some (.ref 150), none]) dL_law_15 rfl (Nat.le_of_ble_eq_true rfl) rfl ?_
  refine xq_iconst (n := 17) (v := (0 : Int32)) dL_law_16 rfl rfl ?_
  refine xq_istore_n (n := 18) (lv' := [some (.float 0), some (.ref 0), some (.ref 150), some (.int (0 : Int32))]) dL_law_17 rfl (Nat.le_of_ble_eq_true rfl) rfl ?_
  refine xq_sw (μ := lw_u0) (o := some ((1 : Int32), q.2)) (fun G base H h => xi_sw h) xi_k2 ?_
  have key := lw_el m0 L xs (Sum.elim (fun r => some r) (fun q => some ((1 : Int32), q.2))) (fun _ => rfl) (fun q => by
    refine xq_iconst (n := 925) (v := (1 : Int32)) dL_law_924 rfl rfl ?_
    exact xq_zretc (v := ((1 : Int32), q.2)) (f := some) dL_law_925 rfl (Or.inr rfl) rfl) m0 0 lw_u0
  rw [hp] at key
  exact key
