def R_law : String := "EndingCourtLaw"
def lw_P (b : Addr) (xs : List Int32) (args : Array Value) (s : State) : Prop := args = #[.ref b] ∧ s.IntsAt b xs ∧ xs.length ≤ 2560 ∧ (Jvm.Cond.and given_1 narrow_1).before args s = true
def lw_Q (_ : Array Value) (s : State) (o : Outcome) (t : State) : Prop := o = .returned (some (.int 1)) ∧ Framed s o t [] 600000 7302250
def lw_Z (below : List Frame) (a : Array Value) (s : State) : State → Prop := fun t => ∃ o, t.status = .running ∧ Ended t below o ∧ lw_Q a s o t
/-- the law's own end, with 1 on the stack, nothing written that was there before, its room as the claim has it -/
theorem lw_ret {p : Program} {l : Launch} {e : Env} {s : State} {m : MethodId} {below : List Frame} {meth : Method} {c : Code} {b : Nat} (hx : p.tables.exec = Jvm.exec) (hb : c.code = code) (hr : meth.sig.returnType = ret) (hlocks : meth.locks = false) {pc : Nat} {H : Heap} {ls : Array Slot} (hdg : decode code pc = .ok (.ireturn, 1)) : W p l e room_1 s m #[Value.ref b] below meth c H [] 600000 7302250 (lw_Z below #[Value.ref b] s) (F0 m pc ls [.int 1]) := by
  intro T hT X
  obtain ⟨fs, hret, hrun, hended, hW, hframe⟩ := X.leave (v := some (.int 1)) (hlocks := hlocks) (fun h => by rw [hr] at h; cases h)
  have hmeth' : T.vm.method? m = some meth := X.method'
  refine ⟨T.setFrames fs, ?_, .returned (some (.int 1)), hrun, hended, rfl, ⟨_, rfl⟩, hW, hframe⟩
  jvm_step X.here [X.here.top, hx, hb, hdg, hmeth', hr, ret, narrow_b1]
  (try refine ⟨rfl, ?_⟩); (try refine ⟨rfl, ?_⟩)
  first | (intro acts; rw [hret _ acts rfl rfl rfl]) | rw [hret _ _ rfl rfl rfl]
  exact Steps.refl _
/-- what holds at the law's entry: the machine, the code, the tables' words (any of lw_tbl by 'hts w (by decide +kernel)'), the script of L ints xs at the cell b, what the Statement gives of the start (any of its parts by flat_of_before) -/
def lw_At (p : Program) (s : State) (m : MethodId) (meth : Method) (c : Code) (b L : Nat) (xs : Nat → Int32) : Prop :=
  p.tables.exec = Jvm.exec ∧ c.code = code ∧ meth.sig.returnType = ret ∧ c.maxLocals = 4 ∧ s.vm.findClass R_law = some m.cls ∧ (∀ w ∈ lw_tbl, w.before #[Value.ref b] s = true) ∧ va_X b L xs s s.heap ∧ b < s.heap.size ∧ meth.locks = false ∧ (Jvm.Cond.and given_1 narrow_1).before #[Value.ref b] s = true ∧ meth.name = "law"
set_option maxHeartbeats 2000000 in
theorem lw_main {p : Program} {e : Env} {s : State} {m : MethodId} {below : List Frame} {meth : Method} {c : Code} (l : Launch) {b L : Nat} {xs : Nat → Int32} (C0 : lw_At p s m meth c b L xs) (hp : ∃ (m0 : Nat) (q : Int32 × xm_Y), lw_lp m0 L xs m0 0 lw_u0 = some (.inr q)) : W p l e room_1 s m #[Value.ref b] below meth c s.heap [] 0 0 (lw_Z below #[Value.ref b] s) (entryFrame m ([Value.ref b] : List Value).toArray 4) := by
  obtain ⟨hx, hb, hr, hml, hown, hts, hX, hbl, hlocks, hgv, hnm⟩ := id C0
  have htb : ∀ w ∈ xm_tb, w.before #[Value.ref b] s = true := fun w hw => hts w (List.mem_filter.mp hw).1
  obtain ⟨cc0, ii0, hn0⟩ := u_known (C := RX0) (T := TX0) (N := 2) (n := 2) htb ix_X0 (hts (.instantiable RX0 2) (by decide +kernel))
  obtain ⟨cc1, ii1, hn1⟩ := u_known (C := RX1) (T := TX1) (N := 5) (n := 5) htb ix_X1 (hts (.instantiable RX1 5) (by decide +kernel))
  obtain ⟨cc2, ii2, hn2⟩ := u_known (C := RX2) (T := TX2) (N := 1) (n := 1) htb ix_X2 (hts (.instantiable RX2 1) (by decide +kernel))
  obtain ⟨cc3, ii3, hn3⟩ := u_known (C := RX3) (T := TX3) (N := 8) (n := 8) htb ix_X3 (hts (.instantiable RX3 8) (by decide +kernel))
  obtain ⟨cc4, ii4, hn4⟩ := u_known (C := RX4) (T := TX4) (N := 3) (n := 3) htb ix_X4 (hts (.instantiable RX4 3) (by decide +kernel))
  obtain ⟨cc5, ii5, hn5⟩ := u_known (C := RX5) (T := TX5) (N := 7) (n := 7) htb ix_X5 (hts (.instantiable RX5 7) (by decide +kernel))
  obtain ⟨cc6, ii6, hn6⟩ := u_known (C := RX6) (T := TX6) (N := 4) (n := 4) htb ix_X6 (hts (.instantiable RX6 4) (by decide +kernel))
  obtain ⟨cc7, ii7, hn7⟩ := u_known (C := RX7) (T := TX7) (N := 3) (n := 3) htb ix_X7 (hts (.instantiable RX7 3) (by decide +kernel))
  obtain ⟨cc8, ii8, hn8⟩ := u_known (C := RX8) (T := TX8) (N := 2) (n := 2) htb ix_X8 (hts (.instantiable RX8 2) (by decide +kernel))
  obtain ⟨cc9, ii9, hn9⟩ := u_known (C := RX9) (T := TX9) (N := 4) (n := 4) htb ix_X9 (hts (.instantiable RX9 4) (by decide +kernel))
  obtain ⟨cc10, ii10, hn10⟩ := u_known (C := RX10) (T := TX10) (N := 6) (n := 6) htb ix_X10 (hts (.instantiable RX10 6) (by decide +kernel))
  obtain ⟨cc11, ii11, hn11⟩ := u_known (C := RX11) (T := TX11) (N := 10) (n := 10) htb ix_X11 (hts (.instantiable RX11 10) (by decide +kernel))
  obtain ⟨cc12, ii12, hn12⟩ := u_known (C := RX12) (T := TX12) (N := 50) (n := 50) htb ix_X12 (hts (.instantiable RX12 50) (by decide +kernel))
  have hKc : ∀ (k : Nat) (q : vw_C), vwCl[k]? = some q → u_Kn s q.1 q.2.1 q.2.2 ((fun k => match k with | 0 => cc0 | 1 => cc1 | 2 => cc2 | 3 => cc3 | 4 => cc4 | 5 => cc5 | 6 => cc6 | 7 => cc7 | 8 => cc8 | 9 => cc9 | 10 => cc10 | 11 => cc11 | _ => cc12 : Nat → ClassId) k) ((fun k => match k with | 0 => ii0 | 1 => ii1 | 2 => ii2 | 3 => ii3 | 4 => ii4 | 5 => ii5 | 6 => ii6 | 7 => ii7 | 8 => ii8 | 9 => ii9 | 10 => ii10 | 11 => ii11 | _ => ii12 : Nat → Nat → Nat) k) := by
    intro k q hq
    match k, hq with
    | 0, hq => cases hq; exact hn0
    | 1, hq => cases hq; exact hn1
    | 2, hq => cases hq; exact hn2
    | 3, hq => cases hq; exact hn3
    | 4, hq => cases hq; exact hn4
    | 5, hq => cases hq; exact hn5
    | 6, hq => cases hq; exact hn6
    | 7, hq => cases hq; exact hn7
    | 8, hq => cases hq; exact hn8
    | 9, hq => cases hq; exact hn9
    | 10, hq => cases hq; exact hn10
    | 11, hq => cases hq; exact hn11
    | 12, hq => cases hq; exact hn12
    | k + 13, hq => simp [vwCl] at hq
  obtain ⟨cI, kI, pI, i1, i2, i3⟩ := Cond.arrayClass_spec (htb _ tb_ar13)
  obtain ⟨cJ, kJ, pJ, j1, j2, j3⟩ := Cond.arrayClass_spec (htb _ tb_ar14)
  obtain ⟨cZ, kZ, pZ, z1, z2, z3⟩ := Cond.arrayClass_spec (htb _ tb_ar15)
  have ao0 : va_AO RX0 s := va_AO.of (hts (.arrayOver (.object RX0)) (by decide +kernel))
  have ao1 : va_AO RX1 s := va_AO.of (hts (.arrayOver (.object RX1)) (by decide +kernel))
  obtain ⟨pA, cA, kA, a1, -, a3, a4, a5⟩ := Cond.arrayOver_spec ao0
  obtain ⟨pB, cB, kB, b1, -, b3, b4, b5⟩ := Cond.arrayOver_spec ao1
  generalize hdc : (fun k => match k with | 0 => cc0 | 1 => cc1 | 2 => cc2 | 3 => cc3 | 4 => cc4 | 5 => cc5 | 6 => cc6 | 7 => cc7 | 8 => cc8 | 9 => cc9 | 10 => cc10 | 11 => cc11 | _ => cc12 : Nat → ClassId) = dC at hKc
  generalize hdi : (fun k => match k with | 0 => ii0 | 1 => ii1 | 2 => ii2 | 3 => ii3 | 4 => ii4 | 5 => ii5 | 6 => ii6 | 7 => ii7 | 8 => ii8 | 9 => ii9 | 10 => ii10 | 11 => ii11 | _ => ii12 : Nat → Nat → Nat) = dI at hKc
  have hK : va_K (dC, dI) vwCl (xm_tys ((dC, dI), cI, cJ, cZ, cA, cB)) s := by
    refine ⟨hKc, fun k q hq => ?_⟩
    match k, hq with
    | 0, hq => cases hq; exact ⟨fun n z => ⟨fun k h => (by cases h), kI, i2, pI, i3⟩, i1⟩
    | 1, hq => cases hq; exact ⟨fun n z => ⟨fun k h => (by cases h), kJ, j2, pJ, j3⟩, j1⟩
    | 2, hq => cases hq; exact ⟨fun n z => ⟨fun k h => (by cases h), kZ, z2, pZ, z3⟩, z1⟩
    | 3, hq => cases hq; exact ⟨fun n z => ⟨fun k h => (by cases h), kA, a3, pA, a4⟩, kA, pA, a3, a4, a1, a5⟩
    | 4, hq => cases hq; exact ⟨fun n z => ⟨fun k h => (by cases h), kB, b3, pB, b4⟩, kB, pB, b3, b4, b1, b5⟩
    | k + 5, hq => simp [xm_tys] at hq
  have hN : xm_N s := ⟨fun a i x h hm => va_Nw.of rfl (hts _ hm), ao0, ao1⟩
  obtain ⟨m0, q, hq⟩ := hp
  have hl := lv_entry ([.ref b]) (n := 4) (Nat.le_of_ble_eq_true rfl)
  rw [lg_entry_eq]
  generalize (lg_sl ([.ref b]) ++ List.replicate (4 - (lg_sl ([.ref b])).length) Slot.unset).toArray = ls at hl ⊢
  have hw0 : xm_W ((dC, dI), cI, cJ, cZ, cA, cB) s.heap.size (sg_i xi_0) s.heap := by
    intro k q hq
    exact absurd (xm_ws_inv hq).1 (Nat.not_lt_zero k)
  refine lw_go hq 1 (sg_0 q.2) rfl ((dC, dI), cI, cJ, cZ, cA, cB) s.heap.size b l p e room_1 s m #[Value.ref b] below meth c s.heap [] 0 0 ls (lw_Z below #[Value.ref b] s) ⟨hx, hb, hr, hml, hown, htb, hlocks, hnm, hK, Nat.le_refl _, hX, hbl, hN⟩ (by decide) (by decide) (by decide) (by decide) ⟨_, hl, fun i v hi => ?_⟩ hw0 rfl va_S.rf (fun H1 locs1 cells1 slots1 pc1 ls1 hc1 hs1 hW1 hS1 hrt => ?_)
  · match i, hi with
    | 0, hi => cases hi; exact List.mem_cons_self
    | 1, hi => cases hi
    | 2, hi => cases hi
    | 3, hi => cases hi
    | i + 4, hi => simp at hi
  · refine va_forget (fun q hq => hS1.2.2 q hq) ?_
    refine W.widen (k := 600000) (n := 7302250) (by omega) (by omega) ?_
    exact lw_ret hx hb hr hlocks hrt.1
