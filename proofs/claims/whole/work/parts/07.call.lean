/-! calls -/
def xm_ok (N : xm_M) (na : Nat) : Prop := plainFor N.1 = true ∧ Cond.code N.1 N.2.1 N.2.2.1 N.2.2.2.1 ∈ xm_tb ∧ Cond.initialized N.1.cls ∈ xm_tb ∧ (N.1.cls ≠ "java/lang/invoke/MethodHandle" ∧ N.1.cls ≠ "java/lang/invoke/VarHandle" ∧ (parseMethodDescriptor N.1.desc).map (fun d => d.parameters.length) = some na)
def xm_wsM (N : xm_M) : List Cond := Cond.code N.1 N.2.1 N.2.2.1 N.2.2.2.1 :: xm_tb
def xm_rm (N : xm_M) (mc ms : Nat) : Room := { frames := N.2.2.2.2.1, cells := mc, slots := ms, locals := N.2.2.2.2.2 }
def xm_fm (vs : List Value) : List (Option Value) := match vs with
  | [] => []
  | v :: vs => if v.category = 2 then some v :: none :: xm_fm vs else some v :: xm_fm vs
def xm_en (n : Nat) (vs : List Value) : List (Option Value) := xm_fm vs ++ List.replicate (n - (xm_fm vs).length) none
theorem xm_fm_mem (base b : Nat) (vs : List Value) (c : Nat) : ∀ (t i : Nat) (v : Value), (xm_fm vs ++ List.replicate c none)[i]? = some (some v) → (t + i, xm_r base b v) ∈ lv_args t (vs.map (xm_r base b)) := by
  induction vs with
  | nil =>
    intro t i v h
    rw [xm_fm, List.nil_append, List.getElem?_replicate] at h
    split at h <;> cases h
  | cons w vs ih =>
    intro t i v h
    unfold xm_fm at h
    simp only [List.map_cons, lv_args, xm_r_cat]
    by_cases hw : w.category = 2
    · rw [if_pos hw] at h
      rw [if_pos hw]
      match i, h with
      | 0, h => cases h; exact List.mem_cons_self
      | 1, h => cases h
      | i + 2, h =>
        have := ih (t + 2) i v h
        rw [show t + (i + 2) = t + 2 + i by omega]
        exact List.mem_cons_of_mem _ this
    · rw [if_neg hw] at h
      rw [if_neg hw]
      match i, h with
      | 0, h => cases h; exact List.mem_cons_self
      | i + 1, h =>
        have := ih (t + 1) i v h
        rw [show t + (i + 1) = t + 1 + i by omega]
        exact List.mem_cons_of_mem _ this
theorem xm_sl_len (base b : Nat) (vs : List Value) : (lg_sl (vs.map (xm_r base b))).length = (lg_sl vs).length := by
  unfold lg_sl
  induction vs with
  | nil => rfl
  | cons w vs ih =>
    simp only [List.map_cons, List.flatMap_cons, List.length_append, xm_r_cat, ih]
    split <;> rfl
def xm_Pc (G : xm_G) (base b L : Nat) (xs : Nat → Int32) (As : List Value) (σ : xm_S) : Array Value → State → Prop := fun v U => v = (As.map (xm_r base b)).toArray ∧ U.heap.size = base + σ.1 ∧ xm_W G base σ U.heap ∧ va_K G.1 vwCl (xm_tys G) U ∧ va_X b L xs U U.heap ∧ b < base ∧ xm_N U
def xm_Qc (G : xm_G) (base b : Nat) (r : Option Value) (σ : xm_S) : Array Value → State → Outcome → State → Prop := fun _ st oc t => oc = .returned (r.map (xm_r base b)) ∧ xm_W G base σ t.heap ∧ va_F (fun q => base ≤ q) st t
theorem xm_N.moved {s U : State} (hW : s.WarmedH U.vm) (h : xm_N s) : xm_N U := ⟨fun a i x hh hm => va_Nw.warmM hW (h.1 a i x hh hm), va_AO.moved hW.alike h.2.1, va_AO.moved hW.alike h.2.2⟩
theorem xm_blind {G : xm_G} {base b L : Nat} {xs : Nat → Int32} {As : List Value} {σ : xm_S} : FrameBlind (xm_Pc G base b L xs As σ) := by
  intro a U g mk q
  obtain ⟨h1, h2, h3, h4, h5, h6, h7⟩ := q
  exact ⟨h1, h2, h3, va_K.moved (u := U) (U := U.calling g mk a) (Vm.Alike.refl U.vm) h4, va_X.moved (u := U) (U := U.calling g mk a) (Vm.Alike.refl U.vm) h5, h6, fun a i x hh hm => va_Nw.same rfl rfl (h7.1 a i x hh hm), va_AO.moved (u := U) (U := U.calling g mk a) (Vm.Alike.refl U.vm) h7.2.1, va_AO.moved (u := U) (U := U.calling g mk a) (Vm.Alike.refl U.vm) h7.2.2⟩
theorem xm_ofW {l : Launch} {y : MethodName} {ws ws' : List Cond} {rm : Room} {Pc : Array Value → State → Prop} {Qc : Array Value → State → Outcome → State → Prop} {mc ms : Nat} {free : Addr → Prop} {cc : ByteArray} {maxL : Nat} {ret : Option FieldType} (hy : plainFor y = true) (hw : ws = Cond.code y cc maxL ret :: ws')
    (hbody : ∀ p e s m args below meth c s₁, BodyLoose p l y (headSpec ws rm) cc maxL ret e s m args below meth c s₁ → c.maxLocals = maxL → Pc args s → W p l e (headSpec ws rm).room s m args below meth c s.heap [] 0 0 (MQ below Qc args s mc ms free) (entryFrame m args maxL)) : Met l y ws rm Pc Qc mc ms free := by
  refine MetFree.of_bodySF (code := cc) (maxLocals := maxL) (ret := ret) hy (fun args s m h hn => ?_) (fun p e s m args below meth c s₁ B hml hP _ => ?_)
  · have hq := Cond.code_spec hn (atoms_spec (ws := ws) h _ (by rw [hw]; exact List.mem_cons_self))
    obtain ⟨meth, c, q1, q2, q3, q4, q5, q6, -, -⟩ := hq
    exact ⟨meth, c, q1, q2, q3, q4, q5, q6⟩
  · have hh : s₁.heap = s.heap := by rw [B.state]; rfl
    obtain ⟨t, g1, oc, g2, g3, g4, g5⟩ := hbody p e s m args below meth c s₁ B hml hP s₁ hh (Stand.of_body B)
    exact ⟨t, oc, g1, g2, g3, g4, g5⟩
set_option maxHeartbeats 1000000 in
theorem xm_met {α S : Type} {em : α → Option Value} {sg : S → xm_S} {N : xm_M} {na : Nat} (hok : xm_ok N na) {lv0 : List (Option Value)} {As : List Value} {σ : S} {mc ms : Nat} {o : Option (α × S)} {r : α} {σ' : S} (hN : xs_ em sg N 0 lv0 [] σ mc ms o) (he : xm_en N.2.2.1 As = lv0) (hlen : (lg_sl As).length ≤ N.2.2.1) (ho : o = some (r, σ')) (G : xm_G) (base b L : Nat) (xs : Nat → Int32) (l : Launch) : Met l N.1 (xm_wsM N) (xm_rm N mc ms) (xm_Pc G base b L xs As (sg σ)) (xm_Qc G base b (em r) (sg σ')) mc ms (fun q => base ≤ q) := by
  refine xm_ofW (cc := N.2.1) (maxL := N.2.2.1) (ret := N.2.2.2.1) hok.1 rfl ?_
  intro p e s m args below meth c s₁ B hml hv
  obtain ⟨rfl, hsz, hW, hK, hX, hb, hNw⟩ := hv
  have hts := atoms_spec (ws := xm_wsM N) B.pre
  have hin : meth.name = N.1.name := (name_of_methodNamed B.named B.method).1
  rw [lg_entry_eq]
  have hl := lv_entry (As.map (xm_r base b)) (n := N.2.2.1) (by rw [xm_sl_len]; exact hlen)
  refine hN r σ' ho G base b L xs l p e _ s m _ below meth c s.heap [] 0 0 _ _ ⟨B.exec, B.bytes, B.returns, hml, findClass_of_methodNamed B.named, fun w hw => hts w (List.mem_cons_of_mem _ hw), B.notSynchronized, hin, hK, by omega, hX, hb, hNw⟩ (Nat.le_refl _) (Nat.le_refl _) (by simp only [Nat.zero_add]; exact Nat.le_refl _) (by simp only [Nat.zero_add]; exact Nat.le_refl _) ⟨_, hl, fun i v hi => ?_⟩ hW (by omega) va_S.rf (fun H1 locs1 cells1 slots1 pc1 ls1 hc1 hs1 hW1 hS1 hrt => ?_)
  · rw [← he, xm_en] at hi
    have := xm_fm_mem base b As _ 0 i v hi
    rwa [Nat.zero_add] at this
  · have key : ∀ v : Option Value, xm_rt N pc1 v → W p l e (headSpec (xm_wsM N) (xm_rm N mc ms)).room s m (As.map (xm_r base b)).toArray below meth c H1 locs1 mc ms (MQ below (xm_Qc G base b v (sg σ')) (As.map (xm_r base b)).toArray s mc ms (fun q => base ≤ q)) (F0 m pc1 ls1 (v.map (xm_r base b)).toList) := by
      intro v hv
      match v, hv with
      | none, hv => exact W.vret B.exec B.bytes (B.returns.trans hv.2) (fun t ht _ => ⟨rfl, by rw [ht]; exact hW1, hS1.F ht⟩) (fun q hq => hS1.2.2 q hq) hv.1
      | some (.long x), hv => exact W.lret B.exec B.bytes (B.returns.trans hv.2) (fun t ht _ => ⟨rfl, by rw [ht]; exact hW1, hS1.F ht⟩) (fun q hq => hS1.2.2 q hq) hv.1
      | some (.int x), hv =>
        rcases hv.2 with hr | ⟨hr, hx⟩
        · exact W.iret B.exec B.bytes (B.returns.trans hr) (fun t ht _ => ⟨rfl, by rw [ht]; exact hW1, hS1.F ht⟩) (fun q hq => hS1.2.2 q hq) hv.1
        · exact W.zret B.exec B.bytes (B.returns.trans hr) (by rcases hx with rfl | rfl <;> rfl) (fun t ht _ => ⟨rfl, by rw [ht]; exact hW1, hS1.F ht⟩) (fun q hq => hS1.2.2 q hq) hv.1
    exact W.widen (by simpa using hc1) (by simpa using hs1) (key _ hrt)
