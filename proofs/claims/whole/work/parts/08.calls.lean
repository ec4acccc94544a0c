section XQ_
variable {p : Program} {l : Launch} {e : Env} {R : Room} {s : State} {m : MethodId} {args : Array Value} {below : List Frame} {meth : Method} {c : Code} {H : Heap} {locs : List Loc} {cells slots : Nat} {Q : State → Prop}
theorem xm_size {G : xm_G} {base : Nat} {σ : xm_S} {T : State} (X : Stand p l e R s m args below meth c T locs cells slots) (hT : T.heap = H) (hW : xm_W G base σ H) (hz : s.heap.size + cells = base + σ.1) (hb : base ≤ s.heap.size) : H.size = base + σ.1 := by
  have h1 : s.heap.size ≤ T.heap.size := X.same.2.1
  have h2 : T.heap.size ≤ s.heap.size + cells := X.same.2.2.1
  rw [hT] at h1 h2
  by_cases hK : σ.1 = 0
  · omega
  · have := (hW (σ.1 - 1) _ (xm_ws_at (by omega))).lt
    dsimp only at this
    omega
theorem xm_after {G : xm_G} {base b : Nat} {σ' : xm_S} {v : Option Value} {mc ms pc : Nat} {ls : Array Slot} {st0 rest : List Value} {a : Array Value} (hr : va_Run p l e R s m args below meth c H locs cells slots mc ms (F0 m pc ls st0) rest (xm_Qc G base b v σ' a) (fun q => base ≤ q)) (hS : va_S (fun q => base ≤ q) s.heap H locs)
    (k : ∀ (H1 : Heap) (locs1 : List Loc), xm_W G base σ' H1 → va_S (fun q => base ≤ q) s.heap H1 locs1 → W p l e R s m args below meth c H1 locs1 (cells + mc) (slots + ms) Q (F0 m (pc + 3) ls ((v.map (xm_r base b)).toList ++ rest))) : W p l e R s m args below meth c H locs cells slots Q (F0 m pc ls st0) := by
  intro T hT X
  obtain ⟨v', st₀, t, T', L, h0, X', hL, e1, e2, ⟨hv, hW1, hF⟩, st⟩ := hr T hT X
  cases hv
  have hS1 : va_S (fun q => base ≤ q) s.heap t.heap (locs ++ L) := by
    refine ⟨Nat.le_trans hS.1 (by rw [← h0]; exact hF.1), fun q h1 h2 => ?_, fun q hq => ?_⟩
    · rw [hF.2 q (by rw [h0]; exact Nat.lt_of_lt_of_le h1 hS.1) h2, h0]
      exact hS.2.1 q h1 h2
    · rcases List.mem_append.mp hq with hq | hq
      · exact hS.2.2 q hq
      · exact hL q hq
  obtain ⟨t2, a1, b1⟩ := k t.heap (locs ++ L) hW1 hS1 T' e1 X'
  exact ⟨t2, st t2 a1, b1⟩
end XQ_
theorem xm_cats (base b : Nat) (st : List Value) : ((st.map (xm_r base b)).map fun v => v.category).sum = (st.map fun v => v.category).sum := by
  rw [List.map_map]
  congr 1
  exact List.map_congr_left (fun v _ => xm_r_cat base b v)
section XR_
variable {α β S αN : Type} {em : α → Option Value} {emN : αN → Option Value} {sg : S → xm_S} {M N : xm_M} {pc n na idx mc ms bc bs bc' bs' : Nat} {lv lv0 : List (Option Value)} {stk rest As : List Value} {σ : S} {oN : Option (αN × S)} {F : αN × S → Option β} {f : β → Option (α × S)}
theorem xs_calls (hd : decode M.2.1 pc = .ok (.invokestatic idx, 3)) (hn : pc + 3 = n) (hok : xm_ok N na) (hw : Cond.methodLink M.1.cls idx N.1 ∈ xm_tb) (hst : Cond.static N.1 ∈ xm_tb) (hR : N.2.2.2.2.1 + 1 ≤ M.2.2.2.2.1 ∧ 8 + (N.2.2.1 + 11) + N.2.2.2.2.2 ≤ M.2.2.2.2.2) (As : List Value) (rest : List Value) (hstk : stk = As.reverse ++ rest) (hla : As.length = na) (hlen : (lg_sl As).length ≤ N.2.2.1) (he : xm_en N.2.2.1 As = lv0) (hrest : (rest.map fun v => v.category).sum ≤ 8) (hb : bc' + mc ≤ bc ∧ bs' + ms ≤ bs) (hKm : ∀ q, oN = some q → (sg q.2).1 = (sg σ).1 + mc) (hN : xs_ emN sg N 0 lv0 [] σ mc ms oN) (k : ∀ (v : αN) (σ1 : S), xs_ em sg M n lv ((emN v).toList ++ rest) σ1 bc' bs' ((F (v, σ1)).bind f)) : xs_ em sg M pc lv stk σ bc bs ((oN.bind F).bind f) := by
  subst hn
  intro r σ' ho G base b L xs l p e R s m args below meth c H locs cells slots ls Q hC hf hlo hc hs hL hW hz hS kret
  cases hoN : oN with
  | none => rw [hoN] at ho; cases ho
  | some q =>
    obtain ⟨v, σ1⟩ := q
    rw [hoN] at ho
    have hM := xm_met hok hN he hlen hoN G base b L xs l
    have hKv := hKm _ hoN
    obtain ⟨hx, hbb, hrt, hml, hown, hts, hlk, hnm, hK, hbs, hX, hbl, hNw⟩ := id hC
    intro T0 hT0 X0
    have hsz := xm_size X0 hT0 hW hz hbs
    refine (?_ : W p l e R s m args below meth c H locs cells slots Q (F0 m pc ls (stk.map (xm_r base b)))) T0 hT0 X0
    refine xm_after (G := G) (base := base) (b := b) (v := emN v) (σ' := sg σ1) (mc := mc) (ms := ms) (rest := rest.map (xm_r base b)) (a := (As.map (xm_r base b)).toArray) ?_ hS (fun H1 locs1 hW1 hS1 => ?_)
    · exact va_runS (As := As.map (xm_r base b)) (rest := rest.map (xm_r base b)) ⟨hx, hbb, hml, hown, hts⟩ hM ⟨callB_of na hts (xm_goodin hok.2.1) rfl rfl rfl (hts _ hok.2.2.1) (hts _ hw) hok.2.2.2 ⟨Nat.le_trans hR.1 hf, Nat.le_trans hR.2 hlo⟩, hts _ hst⟩ ⟨xm_blind, fun U hU hWm => ⟨rfl, by rw [hU]; exact hsz, by rw [hU]; exact hW, va_K.moved hWm.alike hK, by rw [hU]; exact (hX.kept (hS.2.1 b (Nat.lt_of_lt_of_le hbl hbs) (Nat.not_le.mpr hbl))).moved hWm.alike, hbl, hNw.moved hWm⟩⟩ rfl (by rw [List.length_map]; exact hla) hL.size (by subst hstk; simp [xm_r]) (by show 2 * 0 + _ ≤ 8; rw [xm_cats]; omega) hd ⟨by show cells + mc ≤ R.cells; omega, by show slots + ms ≤ R.slots; omega⟩
    · have hk2 := k v σ1 r σ' ho G base b L xs l p e R s m args below meth c H1 locs1 (cells + mc) (slots + ms) ls Q hC hf hlo (by omega) (by omega) hL hW1 (by rw [hKv]; omega) hS1 (fun H2 locs2 cells2 slots2 pc2 ls2 h1 h2 => kret H2 locs2 cells2 slots2 pc2 ls2 (by omega) (by omega))
      cases hem : emN v <;> rw [hem] at hk2 <;> exact hk2
theorem xs_callsn {host : String} (hd : decode M.2.1 pc = .ok (.invokestatic idx, 3)) (hn : pc + 3 = n) (hok : xm_ok N na) (hw : Cond.methodLinkNest M.1.cls idx N.1 host ∈ lw_tbl) (hst : Cond.static N.1 ∈ xm_tb) (hR : N.2.2.2.2.1 + 1 ≤ M.2.2.2.2.1 ∧ 8 + (N.2.2.1 + 11) + N.2.2.2.2.2 ≤ M.2.2.2.2.2) (As : List Value) (rest : List Value) (hstk : stk = As.reverse ++ rest) (hla : As.length = na) (hlen : (lg_sl As).length ≤ N.2.2.1) (he : xm_en N.2.2.1 As = lv0) (hrest : (rest.map fun v => v.category).sum ≤ 8) (hb : bc' + mc ≤ bc ∧ bs' + ms ≤ bs) (hKm : ∀ q, oN = some q → (sg q.2).1 = (sg σ).1 + mc) (hN : xs_ emN sg N 0 lv0 [] σ mc ms oN) (k : ∀ (v : αN) (σ1 : S), xs_ em sg M n lv ((emN v).toList ++ rest) σ1 bc' bs' ((F (v, σ1)).bind f)) : xs_ em sg M pc lv stk σ bc bs ((oN.bind F).bind f) := by
  subst hn
  intro r σ' ho G base b L xs l p e R s m args below meth c H locs cells slots ls Q hC hf hlo hc hs hL hW hz hS kret
  cases hoN : oN with
  | none => rw [hoN] at ho; cases ho
  | some q =>
    obtain ⟨v, σ1⟩ := q
    rw [hoN] at ho
    have hM := xm_met hok hN he hlen hoN G base b L xs l
    have hKv := hKm _ hoN
    obtain ⟨hx, hbb, hrt, hml, hown, hts, hlk, hnm, hK, hbs, hX, hbl, hNw⟩ := id hC
    intro T0 hT0 X0
    have hsz := xm_size X0 hT0 hW hz hbs
    refine (?_ : W p l e R s m args below meth c H locs cells slots Q (F0 m pc ls (stk.map (xm_r base b)))) T0 hT0 X0
    refine xm_after (G := G) (base := base) (b := b) (v := emN v) (σ' := sg σ1) (mc := mc) (ms := ms) (rest := rest.map (xm_r base b)) (a := (As.map (xm_r base b)).toArray) ?_ hS (fun H1 locs1 hW1 hS1 => ?_)
    · exact va_runSN (As := As.map (xm_r base b)) (rest := rest.map (xm_r base b)) ⟨hx, hbb, hml, hown, hts⟩ hM ⟨va_cnB na hts (xm_goodin hok.2.1) rfl rfl rfl (hNw.1 _ _ _ _ hw) (hts _ hok.2.2.1) hok.2.2.2 ⟨Nat.le_trans hR.1 hf, Nat.le_trans hR.2 hlo⟩, hts _ hst, trivial⟩ ⟨xm_blind, fun U hU hWm => ⟨rfl, by rw [hU]; exact hsz, by rw [hU]; exact hW, va_K.moved hWm.alike hK, by rw [hU]; exact (hX.kept (hS.2.1 b (Nat.lt_of_lt_of_le hbl hbs) (Nat.not_le.mpr hbl))).moved hWm.alike, hbl, hNw.moved hWm⟩⟩ rfl (by rw [List.length_map]; exact hla) hL.size (by subst hstk; simp [xm_r]) (by show 2 * 0 + _ ≤ 8; rw [xm_cats]; omega) hd ⟨by show cells + mc ≤ R.cells; omega, by show slots + ms ≤ R.slots; omega⟩
    · have hk2 := k v σ1 r σ' ho G base b L xs l p e R s m args below meth c H1 locs1 (cells + mc) (slots + ms) ls Q hC hf hlo (by omega) (by omega) hL hW1 (by rw [hKv]; omega) hS1 (fun H2 locs2 cells2 slots2 pc2 ls2 h1 h2 => kret H2 locs2 cells2 slots2 pc2 ls2 (by omega) (by omega))
      cases hem : emN v <;> rw [hem] at hk2 <;> exact hk2
theorem xs_callv {kk ci nn : Nat} {T : u_T} {NF : Nat} (hd : decode M.2.1 pc = .ok (.invokevirtual idx, 3)) (hn : pc + 3 = n) (hok : xm_ok N na) (hw : Cond.methodLink M.1.cls idx N.1 ∈ xm_tb) (hin : Cond.instanceMethod N.1 ∈ xm_tb) (hse : Cond.selects N.1.cls N.1 N.1 ∈ xm_tb) (hR : N.2.2.2.2.1 + 1 ≤ M.2.2.2.2.1 ∧ 8 + (N.2.2.1 + 11) + N.2.2.2.2.2 ≤ M.2.2.2.2.2) (As : List Value) (rest : List Value) (hstk : stk = As.reverse ++ .ref kk :: rest) (hla : As.length = na) (hlen : (lg_sl (.ref kk :: As)).length ≤ N.2.2.1) (he : xm_en N.2.2.1 (.ref kk :: As) = lv0) (hrest : (rest.map fun v => v.category).sum ≤ 8) (hb : bc' + mc ≤ bc ∧ bs' + ms ≤ bs) (hKm : ∀ q, oN = some q → (sg q.2).1 = (sg σ).1 + mc) (hN : xs_ emN sg N 0 lv0 [] σ mc ms oN) (hk : xm_is (sg σ) kk ci nn) (hc13 : ci < 13) (hcl : vwCl[ci]? = some (N.1.cls, T, NF)) (k : ∀ (v : αN) (σ1 : S), xs_ em sg M n lv ((emN v).toList ++ rest) σ1 bc' bs' ((F (v, σ1)).bind f)) : xs_ em sg M pc lv stk σ bc bs ((oN.bind F).bind f) := by
  subst hn
  intro r σ' ho G base b L xs l p e R s m args below meth c H locs cells slots ls Q hC hf hlo hc hs hL hW hz hS kret
  cases hoN : oN with
  | none => rw [hoN] at ho; cases ho
  | some q =>
    obtain ⟨v, σ1⟩ := q
    rw [hoN] at ho
    have hM := xm_met hok hN he hlen hoN G base b L xs l
    have hKv := hKm _ hoN
    obtain ⟨hx, hbb, hrt, hml, hown, hts, hlk, hnm, hK, hbs, hX, hbl, hNw⟩ := id hC
    intro T0 hT0 X0
    have hsz := xm_size X0 hT0 hW hz hbs
    refine (?_ : W p l e R s m args below meth c H locs cells slots Q (F0 m pc ls (stk.map (xm_r base b)))) T0 hT0 X0
    refine xm_after (G := G) (base := base) (b := b) (v := emN v) (σ' := sg σ1) (mc := mc) (ms := ms) (rest := rest.map (xm_r base b)) (a := (Value.ref (base + kk) :: As.map (xm_r base b)).toArray) ?_ hS (fun H1 locs1 hW1 hS1 => ?_)
    · exact va_runV (As := As.map (xm_r base b)) (rest := rest.map (xm_r base b)) ⟨hx, hbb, hml, hown, hts⟩ hM ⟨callB_of na hts (xm_goodin hok.2.1) rfl rfl rfl (hts _ hok.2.2.1) (hts _ hw) hok.2.2.2 ⟨Nat.le_trans hR.1 hf, Nat.le_trans hR.2 hlo⟩, hts _ hin, hts _ hse⟩ ⟨xm_blind, va_recv hK hW hcl (xm_atob hc13 hk), fun U hU hWm => ⟨rfl, by rw [hU]; exact hsz, by rw [hU]; exact hW, va_K.moved hWm.alike hK, by rw [hU]; exact (hX.kept (hS.2.1 b (Nat.lt_of_lt_of_le hbl hbs) (Nat.not_le.mpr hbl))).moved hWm.alike, hbl, hNw.moved hWm⟩⟩ rfl (by rw [List.length_map]; exact hla) hL.size (by subst hstk; simp [xm_r]) (by show 2 * 0 + _ ≤ 8; rw [xm_cats]; omega) hd ⟨by show cells + mc ≤ R.cells; omega, by show slots + ms ≤ R.slots; omega⟩
    · have hk2 := k v σ1 r σ' ho G base b L xs l p e R s m args below meth c H1 locs1 (cells + mc) (slots + ms) ls Q hC hf hlo (by omega) (by omega) hL hW1 (by rw [hKv]; omega) hS1 (fun H2 locs2 cells2 slots2 pc2 ls2 h1 h2 => kret H2 locs2 cells2 slots2 pc2 ls2 (by omega) (by omega))
      cases hem : emN v <;> rw [hem] at hk2 <;> exact hk2
theorem xs_callc {kk : Nat} (hd : decode M.2.1 pc = .ok (.invokespecial idx, 3)) (hn : pc + 3 = n) (hok : xm_ok N na) (hw : Cond.methodLink M.1.cls idx N.1 ∈ xm_tb) (hin : Cond.instanceMethod N.1 ∈ xm_tb) (hname : N.1.name = "<init>") (hret : N.2.2.2.1 = none) (hR : N.2.2.2.2.1 + 1 ≤ M.2.2.2.2.1 ∧ 8 + (N.2.2.1 + 11) + N.2.2.2.2.2 ≤ M.2.2.2.2.2) (As : List Value) (rest : List Value) (hstk : stk = As.reverse ++ .ref kk :: rest) (hla : As.length = na) (hlen : (lg_sl (.ref kk :: As)).length ≤ N.2.2.1) (he : xm_en N.2.2.1 (.ref kk :: As) = lv0) (hrest : (rest.map fun v => v.category).sum ≤ 8) (hb : bc' + mc ≤ bc ∧ bs' + ms ≤ bs) (hKm : ∀ q, oN = some q → (sg q.2).1 = (sg σ).1 + mc) (hN : xs_ emN sg N 0 lv0 [] σ mc ms oN) (k : ∀ (v : αN) (σ1 : S), xs_ em sg M n lv ((emN v).toList ++ rest) σ1 bc' bs' ((F (v, σ1)).bind f)) : xs_ em sg M pc lv stk σ bc bs ((oN.bind F).bind f) := by
  subst hn
  intro r σ' ho G base b L xs l p e R s m args below meth c H locs cells slots ls Q hC hf hlo hc hs hL hW hz hS kret
  cases hoN : oN with
  | none => rw [hoN] at ho; cases ho
  | some q =>
    obtain ⟨v, σ1⟩ := q
    rw [hoN] at ho
    have hM := xm_met hok hN he hlen hoN G base b L xs l
    have hKv := hKm _ hoN
    obtain ⟨hx, hbb, hrt, hml, hown, hts, hlk, hnm, hK, hbs, hX, hbl, hNw⟩ := id hC
    intro T0 hT0 X0
    have hsz := xm_size X0 hT0 hW hz hbs
    refine (?_ : W p l e R s m args below meth c H locs cells slots Q (F0 m pc ls (stk.map (xm_r base b)))) T0 hT0 X0
    refine xm_after (G := G) (base := base) (b := b) (v := emN v) (σ' := sg σ1) (mc := mc) (ms := ms) (rest := rest.map (xm_r base b)) (a := (Value.ref (base + kk) :: As.map (xm_r base b)).toArray) ?_ hS (fun H1 locs1 hW1 hS1 => ?_)
    · exact va_runI (As := As.map (xm_r base b)) (rest := rest.map (xm_r base b)) ⟨hx, hbb, hml, hown, hts⟩ hM ⟨callB_of na hts (xm_goodin hok.2.1) (by rw [xm_wsM, hret]) rfl rfl (hts _ hok.2.2.1) (hts _ hw) hok.2.2.2 ⟨Nat.le_trans hR.1 hf, Nat.le_trans hR.2 hlo⟩, hname, hts _ hin⟩ ⟨xm_blind, fun U hU hWm => ⟨rfl, by rw [hU]; exact hsz, by rw [hU]; exact hW, va_K.moved hWm.alike hK, by rw [hU]; exact (hX.kept (hS.2.1 b (Nat.lt_of_lt_of_le hbl hbs) (Nat.not_le.mpr hbl))).moved hWm.alike, hbl, hNw.moved hWm⟩⟩ rfl (by rw [List.length_map]; exact hla) hL.size (by subst hstk; simp [xm_r]) (by show 2 * 0 + _ ≤ 8; rw [xm_cats]; omega) hd ⟨by show cells + mc ≤ R.cells; omega, by show slots + ms ≤ R.slots; omega⟩
    · have hk2 := k v σ1 r σ' ho G base b L xs l p e R s m args below meth c H1 locs1 (cells + mc) (slots + ms) ls Q hC hf hlo (by omega) (by omega) hL hW1 (by rw [hKv]; omega) hS1 (fun H2 locs2 cells2 slots2 pc2 ls2 h1 h2 => kret H2 locs2 cells2 slots2 pc2 ls2 (by omega) (by omega))
      cases hem : emN v <;> rw [hem] at hk2 <;> exact hk2
theorem xs_callcn {kk : Nat} {host : String} (hd : decode M.2.1 pc = .ok (.invokespecial idx, 3)) (hn : pc + 3 = n) (hok : xm_ok N na) (hw : Cond.methodLinkNest M.1.cls idx N.1 host ∈ lw_tbl) (hin : Cond.instanceMethod N.1 ∈ xm_tb) (hname : N.1.name = "<init>") (hret : N.2.2.2.1 = none) (hR : N.2.2.2.2.1 + 1 ≤ M.2.2.2.2.1 ∧ 8 + (N.2.2.1 + 11) + N.2.2.2.2.2 ≤ M.2.2.2.2.2) (As : List Value) (rest : List Value) (hstk : stk = As.reverse ++ .ref kk :: rest) (hla : As.length = na) (hlen : (lg_sl (.ref kk :: As)).length ≤ N.2.2.1) (he : xm_en N.2.2.1 (.ref kk :: As) = lv0) (hrest : (rest.map fun v => v.category).sum ≤ 8) (hb : bc' + mc ≤ bc ∧ bs' + ms ≤ bs) (hKm : ∀ q, oN = some q → (sg q.2).1 = (sg σ).1 + mc) (hN : xs_ emN sg N 0 lv0 [] σ mc ms oN) (k : ∀ (v : αN) (σ1 : S), xs_ em sg M n lv ((emN v).toList ++ rest) σ1 bc' bs' ((F (v, σ1)).bind f)) : xs_ em sg M pc lv stk σ bc bs ((oN.bind F).bind f) := by
  subst hn
  intro r σ' ho G base b L xs l p e R s m args below meth c H locs cells slots ls Q hC hf hlo hc hs hL hW hz hS kret
  cases hoN : oN with
  | none => rw [hoN] at ho; cases ho
  | some q =>
    obtain ⟨v, σ1⟩ := q
    rw [hoN] at ho
    have hM := xm_met hok hN he hlen hoN G base b L xs l
    have hKv := hKm _ hoN
    obtain ⟨hx, hbb, hrt, hml, hown, hts, hlk, hnm, hK, hbs, hX, hbl, hNw⟩ := id hC
    intro T0 hT0 X0
    have hsz := xm_size X0 hT0 hW hz hbs
    refine (?_ : W p l e R s m args below meth c H locs cells slots Q (F0 m pc ls (stk.map (xm_r base b)))) T0 hT0 X0
    refine xm_after (G := G) (base := base) (b := b) (v := emN v) (σ' := sg σ1) (mc := mc) (ms := ms) (rest := rest.map (xm_r base b)) (a := (Value.ref (base + kk) :: As.map (xm_r base b)).toArray) ?_ hS (fun H1 locs1 hW1 hS1 => ?_)
    · exact va_runIN (As := As.map (xm_r base b)) (rest := rest.map (xm_r base b)) ⟨hx, hbb, hml, hown, hts⟩ hM ⟨va_cnB na hts (xm_goodin hok.2.1) (by rw [xm_wsM, hret]) rfl rfl (hNw.1 _ _ _ _ hw) (hts _ hok.2.2.1) hok.2.2.2 ⟨Nat.le_trans hR.1 hf, Nat.le_trans hR.2 hlo⟩, hname, hts _ hin⟩ ⟨xm_blind, fun U hU hWm => ⟨rfl, by rw [hU]; exact hsz, by rw [hU]; exact hW, va_K.moved hWm.alike hK, by rw [hU]; exact (hX.kept (hS.2.1 b (Nat.lt_of_lt_of_le hbl hbs) (Nat.not_le.mpr hbl))).moved hWm.alike, hbl, hNw.moved hWm⟩⟩ rfl (by rw [List.length_map]; exact hla) hL.size (by subst hstk; simp [xm_r]) (by show 2 * 0 + _ ≤ 8; rw [xm_cats]; omega) hd ⟨by show cells + mc ≤ R.cells; omega, by show slots + ms ≤ R.slots; omega⟩
    · have hk2 := k v σ1 r σ' ho G base b L xs l p e R s m args below meth c H1 locs1 (cells + mc) (slots + ms) ls Q hC hf hlo (by omega) (by omega) hL hW1 (by rw [hKv]; omega) hS1 (fun H2 locs2 cells2 slots2 pc2 ls2 h1 h2 => kret H2 locs2 cells2 slots2 pc2 ls2 (by omega) (by omega))
      cases hem : emN v <;> rw [hem] at hk2 <;> exact hk2
theorem tb_oin : Cond.instanceMethod objectInit ∈ xm_tb := by decide +kernel
theorem tb_oco : Cond.code objectInit ⟨#[0xb1]⟩ 1 none ∈ xm_tb := by decide +kernel
theorem xs_oinit {kk : Nat} {o : Option (α × S)} (hd : decode M.2.1 pc = .ok (.invokespecial idx, 3)) (hn : pc + 3 = n) (hw : Cond.methodLink M.1.cls idx objectInit ∈ xm_tb) (hR : 1 ≤ M.2.2.2.2.1 ∧ (rest.map fun v => v.category).sum + 12 ≤ M.2.2.2.2.2) (k : xs_ em sg M n lv rest σ bc bs o) : xs_ em sg M pc lv (.ref kk :: rest) σ bc bs o := by
  subst hn
  intro r σ' ho G base b L xs l p e R s m args below meth c H locs cells slots ls Q hC hf hlo hc hs hL hW hz hS kret
  refine W.objInit hC.1 hC.2.1 hC.2.2.2.2.1 (hC.2.2.2.2.2.1 _ hw) (hC.2.2.2.2.2.1 _ tb_oin) (hC.2.2.2.2.2.1 _ tb_oco) (g := F0 m pc ls ((Value.ref kk :: rest).map (xm_r base b))) rfl (by show ls.size = _; rw [hL.size]; exact hC.2.2.2.1.symm) rfl hd (Nat.le_trans hR.1 hf) (by show 2 * 0 + _ + 12 ≤ _; rw [xm_cats]; omega) ?_
  exact k r σ' ho G base b L xs l p e R s m args below meth c H locs cells slots ls Q hC hf hlo hc hs hL hW hz hS kret
end XR_
