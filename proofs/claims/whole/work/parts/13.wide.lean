/-! a static call with more words below it on the stack -/
section XW_
variable {p : Program} {l : Launch} {e : Env} {R : Room} {s : State} {m : MethodId} {args : Array Value} {below : List Frame} {meth : Method} {c : Code} {H : Heap} {locs : List Loc} {cells slots : Nat}
variable {y : MethodName} {bytes cc : ByteArray} {maxL nL mc ms n index wd : Nat} {ret : Option FieldType} {ws ws' : List Cond} {rm : Room} {Pc : Array Value → State → Prop} {Qc : Array Value → State → Outcome → State → Prop} {free : Addr → Prop} {Ts : List Cond} {own : String} {As rest : List Value} {g : JFrame}
theorem xm_runSW (hS : CallFix p m c cc nL s args Ts own) (hM : Met l y ws rm Pc Qc mc ms free) (hG : GoodIn Ts ws) (hws : ws = Cond.code y bytes maxL ret :: ws') (hrc : rm.cells = mc) (hrs : rm.slots = ms) (hfr : rm.frames + 1 ≤ R.frames) (hlo : wd + (maxL + 11) + rm.locals ≤ R.locals) (hini : (Cond.initialized y.cls).before args s = true) (hl : (Cond.methodLink own index y).before args s = true) (hst : (Cond.static y).before args s = true)
    (hd : y.cls ≠ "java/lang/invoke/MethodHandle" ∧ y.cls ≠ "java/lang/invoke/VarHandle" ∧ (parseMethodDescriptor y.desc).map (fun d => d.parameters.length) = some n) (hp : PreS s H Pc As) (hg : g.method = m) (hn : As.length = n) (hsize : g.locals.size = nL) (hstack : g.stack = As.reverse ++ rest) (hwd : 2 * g.monitorRoom + (rest.map fun v => v.category).sum ≤ wd) (hdg : decode cc g.pc = .ok (.invokestatic index, 3)) (hf : cells + mc ≤ R.cells ∧ slots + ms ≤ R.slots) :
    va_Run p l e R s m args below meth c H locs cells slots mc ms g rest (Qc As.toArray) free := by
  obtain ⟨hx, hb, hml, ho, ht⟩ := hS
  have hc : Cond.code y bytes maxL ret ∈ ws := by rw [hws]; exact List.mem_cons_self
  have hB : Back l R p e below s args y 3 wd (PreOf R mc ms Pc) (PostOf Qc mc ms free) := back_of (bytes := bytes) (maxL := maxL) (ret := ret) hM hp.1 hrc hrs hfr hlo (pay_in ht hG) hc (fun a' U hW => word_at hW (Or.inl (by first | rfl | simp [Cond.onTables, Cond.keeps, Cond.steady])) hini)
  intro T hT X
  have hlen : ∀ sig, parseMethodDescriptor y.desc = some sig → As.length = sig.parameters.length := fun sig h => by
    have h2 := hd.2.2
    rw [h] at h2
    exact hn.trans (Option.some.inj h2).symm
  have hcall := callS X hx (bytes := bytes) (maxL := maxL) (ret := ret) ho hl hst hini (ht _ (hG _ hc).1) ⟨hd.1, hd.2.1⟩ hB hg (hsize.trans hml.symm) (argsL := As) (rest := rest) hlen hstack hwd (by rw [hb]; exact hdg) (fun vm₁ hW₁ => ⟨hf.1, hf.2, hp.2 (T.setVm vm₁) hT hW₁⟩)
  obtain ⟨v, vm₁, ⟨U1, l1, c1, s1⟩, -, X1, ⟨g1, mk, t, L, q1, q2, q3, q4, q5, q6, q7⟩, stp⟩ := hcall
  dsimp only [Pt.U, Pt.locs, Pt.cells, Pt.slots] at X1 q1 q2 q4 q6 q7 stp
  subst q4; subst q6; subst q7
  exact ⟨v, (T.setVm vm₁).calling g1 mk As.toArray, t, U1, L, hT, X1, q5, q1, q2, q3, stp⟩
end XW_
section XR_
variable {α β : Type} {em : α → Option Value} {M N : xm_M} {pc n na idx bc bs : Nat} {lv lv0 : List (Option Value)} {stk : List Value} {μ : xm_Y} {oN : Option (Int64 × xm_Y)} {F : Int64 × xm_Y → Option β} {f : β → Option (α × xm_Y)}
theorem ys_callslw (wd : Nat) (hd : decode M.2.1 pc = .ok (.invokestatic idx, 3)) (hn : pc + 3 = n) (hok : xm_ok N na) (hw : Cond.methodLink M.1.cls idx N.1 ∈ xm_tb) (hst : Cond.static N.1 ∈ xm_tb) (hR : N.2.2.2.2.1 + 1 ≤ M.2.2.2.2.1 ∧ wd + (N.2.2.1 + 11) + N.2.2.2.2.2 ≤ M.2.2.2.2.2) (As : List Value) (rest : List Value) (hstk : stk = As.reverse ++ rest) (hla : As.length = na) (hlen : (lg_sl As).length ≤ N.2.2.1) (he : xm_en N.2.2.1 As = lv0) (hrest : (rest.map fun v => v.category).sum ≤ wd) (hN : xs_ (fun x : Int64 => some (.long x)) sg_0 N 0 lv0 [] μ 0 0 oN) (k : ∀ q : Int64 × xm_Y, xs_ em sg_0 M n lv (.long q.1 :: rest) q.2 bc bs ((F q).bind f)) : xs_ em sg_0 M pc lv stk μ bc bs ((oN.bind F).bind f) := by
  subst hn
  intro r σ' ho G base b L xs l p e R s m args below meth c H locs cells slots ls Q hC hf hlo hc hs hL hW hz hS kret
  cases hoN : oN with
  | none => rw [hoN] at ho; cases ho
  | some q =>
    obtain ⟨v, σ1⟩ := q
    rw [hoN] at ho
    have hM := xm_met hok hN he hlen hoN G base b L xs l
    obtain ⟨hx, hbb, hrt, hml, hown, hts, hlk, hnm, hK, hbs, hX, hbl, hNw⟩ := id hC
    intro T0 hT0 X0
    have hsz := xm_size X0 hT0 hW hz hbs
    refine (?_ : W p l e R s m args below meth c H locs cells slots Q (F0 m pc ls (stk.map (xm_r base b)))) T0 hT0 X0
    refine xm_after (G := G) (base := base) (b := b) (v := some (.long v)) (σ' := sg_0 σ1) (mc := 0) (ms := 0) (rest := rest.map (xm_r base b)) (a := (As.map (xm_r base b)).toArray) ?_ hS (fun H1 locs1 hW1 hS1 => ?_)
    · exact xm_runSW (As := As.map (xm_r base b)) (rest := rest.map (xm_r base b)) (wd := wd) ⟨hx, hbb, hml, hown, hts⟩ hM (xm_goodin hok.2.1) rfl rfl rfl (Nat.le_trans hR.1 hf) (Nat.le_trans hR.2 hlo) (hts _ hok.2.2.1) (hts _ hw) (hts _ hst) hok.2.2.2 ⟨xm_blind, fun U hU hWm => ⟨rfl, by rw [hU]; exact hsz, by rw [hU]; exact hW, va_K.moved hWm.alike hK, by rw [hU]; exact (hX.kept (hS.2.1 b (Nat.lt_of_lt_of_le hbl hbs) (Nat.not_le.mpr hbl))).moved hWm.alike, hbl, hNw.moved hWm⟩⟩ rfl (by rw [List.length_map]; exact hla) hL.size (by subst hstk; simp) (by show 2 * 0 + _ ≤ wd; rw [xm_cats]; omega) hd ⟨by show cells + 0 ≤ R.cells; omega, by show slots + 0 ≤ R.slots; omega⟩
    · exact k (v, σ1) r σ' ho G base b L xs l p e R s m args below meth c H1 locs1 (cells + 0) (slots + 0) ls Q hC hf hlo (by omega) (by omega) hL hW1 hz hS1 (fun H2 locs2 cells2 slots2 pc2 ls2 h1 h2 => kret H2 locs2 cells2 slots2 pc2 ls2 (by omega) (by omega))
end XR_
