/-! rows while the objects are being made: the cells' kinds are looked up as the run goes -/
abbrev sg_i (σ : xm_S) : xm_S := σ
def d_R (σ : xm_S) (k j v : Nat) : xm_S := (σ.1, σ.2.1, xm_u2 σ.2.2.1 k j (some v), σ.2.2.2.1, σ.2.2.2.2)
def d_I (σ : xm_S) (k j : Nat) (v : Int32) : xm_S := (σ.1, σ.2.1, σ.2.2.1, xm_u2 σ.2.2.2.1 k j v, σ.2.2.2.2)
def d_J (σ : xm_S) (k j : Nat) (v : Int64) : xm_S := (σ.1, σ.2.1, σ.2.2.1, σ.2.2.2.1, xm_u2 σ.2.2.2.2 k j v)
abbrev xm_ic (σ : xm_S) (k kd : Nat) : Prop := k < σ.1 ∧ (σ.2.1 k).1 = kd
theorem xm_ic.is {σ : xm_S} {k kd : Nat} (h : xm_ic σ k kd) : xm_is (sg_i σ) k kd (σ.2.1 k).2 := ⟨h.1, Prod.ext h.2 rfl⟩
section XR_
variable {α β γ : Type} {em : α → Option Value} {M : xm_M} {pc n idx : Nat} {lv : List (Option Value)} {st : List Value} {σ : xm_S} {bc bs bc' bs' : Nat} {a : Option β} {f : β → Option (α × xm_S)} {g : xm_S → Option β} {ci j t kk : Nat} {C : String} {T : u_T} {N : Nat} {ty : Nat → FieldType}
theorem xs_chk {c : Prop} [Decidable c] {S : Type} {sg : S → xm_S} {σ : S} {f : β → Option (α × S)} (k : c → xs_ em sg M pc lv st σ bc bs (a.bind f)) : xs_ em sg M pc lv st σ bc bs ((xm_chk c a).bind f) := by
  by_cases h : c
  · rw [xm_chk, if_pos h]; exact k h
  · rw [xm_chk, if_neg h]; exact xs_none
theorem zs_getr {g : Nat → Option β} (hd : decode M.2.1 pc = .ok (.getfield idx, 3)) (hn : pc + 3 = n) (hl : xm_fl M.1.cls idx ci j 2 C T N ty) (k : ∀ r, xs_ em sg_i M n lv (.ref r :: st) σ bc bs ((g r).bind f)) : xs_ em sg_i M pc lv (.ref kk :: st) σ bc bs (((xm_chk (xm_ic σ kk ci) (σ.2.2.1 kk j)).bind g).bind f) := by
  refine xs_reg (xs_chk (fun h => ?_))
  cases hr : σ.2.2.1 kk j with
  | none => exact xs_none
  | some r => exact xs_getr hd hn hl h.is hr (k r)
theorem zs_geti (hd : decode M.2.1 pc = .ok (.getfield idx, 3)) (hn : pc + 3 = n) (hl : xm_fl M.1.cls idx ci j t C T N ty) (ht : t = 0 ∨ t = 3) (k : xs_ em sg_i M n lv (.int (σ.2.2.2.1 kk j) :: st) σ bc bs (a.bind f)) : xs_ em sg_i M pc lv (.ref kk :: st) σ bc bs ((xm_chk (xm_ic σ kk ci) a).bind f) := xs_chk (fun h => xs_geti hd hn hl ht h.is k)
theorem zs_puti {v : Int32} (hd : decode M.2.1 pc = .ok (.putfield idx, 3)) (hn : pc + 3 = n) (hl : xm_fl M.1.cls idx ci j 0 C T N ty) (hfin : (T j).2.2.2 = false) (k : ∀ s', xs_ em sg_i M n lv st s' bc bs ((g s').bind f)) : xs_ em sg_i M pc lv (.int v :: .ref kk :: st) σ bc bs ((xm_chk (xm_ic σ kk ci) (xm_let (d_I σ kk j v) g)).bind f) := xs_chk (fun h => xs_puti hd hn hl hfin h.is rfl (k (d_I σ kk j v)))
theorem zs_putzc {v : Int32} (hd : decode M.2.1 pc = .ok (.putfield idx, 3)) (hn : pc + 3 = n) (hl : xm_fl M.1.cls idx ci j 3 C T N ty) (hfin : (T j).2.2.2 = false) (hx : v = 0 ∨ v = 1) (k : ∀ s', xs_ em sg_i M n lv st s' bc bs ((g s').bind f)) : xs_ em sg_i M pc lv (.int v :: .ref kk :: st) σ bc bs ((xm_chk (xm_ic σ kk ci) (xm_let (d_I σ kk j v) g)).bind f) := xs_chk (fun h => by
  have := xs_putz (a := g (d_I σ kk j v)) (f := f) (σ1 := d_I σ kk j v) (v := v) hd hn hl hfin h.is rfl (k (d_I σ kk j v))
  rw [xm_chk, if_pos hx] at this
  exact this)
theorem zs_putr {v : Nat} (hd : decode M.2.1 pc = .ok (.putfield idx, 3)) (hn : pc + 3 = n) (hl : xm_fl M.1.cls idx ci j 2 C T N ty) (hfin : (T j).2.2.2 = true ∧ M.1.name = "<init>" ∧ (T j).1 = M.1.cls) (k : ∀ s', xs_ em sg_i M n lv st s' bc bs ((g s').bind f)) : xs_ em sg_i M pc lv (.ref v :: .ref kk :: st) σ bc bs ((xm_chk (xm_ic σ kk ci) (xm_let (d_R σ kk j v) g)).bind f) := xs_chk (fun h => xs_putr hd hn hl hfin h.is rfl (k (d_R σ kk j v)))
theorem zs_iastore {i v : Int32} (hd : decode M.2.1 pc = .ok (.iastore, 1)) (hn : pc + 1 = n) (k : ∀ s', xs_ em sg_i M n lv st s' bc bs ((g s').bind f)) : xs_ em sg_i M pc lv (.int v :: .int i :: .ref kk :: st) σ bc bs ((xm_chk (xm_ic σ kk 13) (xm_chk (xm_in i (σ.2.1 kk).2) (xm_let (d_I σ kk i.toNatClampNeg v) g))).bind f) := xs_chk (fun h => xs_iastore hd hn h.is rfl (k (d_I σ kk i.toNatClampNeg v)))
theorem zs_bastore {i v : Int32} (hd : decode M.2.1 pc = .ok (.bastore, 1)) (hn : pc + 1 = n) (k : ∀ s', xs_ em sg_i M n lv st s' bc bs ((g s').bind f)) : xs_ em sg_i M pc lv (.int v :: .int i :: .ref kk :: st) σ bc bs ((xm_chk (xm_ic σ kk 15) (xm_chk (xm_in i (σ.2.1 kk).2) (xm_let (d_I σ kk i.toNatClampNeg (vp_nar .boolean v)) g))).bind f) := xs_chk (fun h => xs_bastore hd hn h.is rfl (k (d_I σ kk i.toNatClampNeg (vp_nar .boolean v))))
theorem zs_lastore {i : Int32} {v : Int64} (hd : decode M.2.1 pc = .ok (.lastore, 1)) (hn : pc + 1 = n) (k : ∀ s', xs_ em sg_i M n lv st s' bc bs ((g s').bind f)) : xs_ em sg_i M pc lv (.long v :: .int i :: .ref kk :: st) σ bc bs ((xm_chk (xm_ic σ kk 14) (xm_chk (xm_in i (σ.2.1 kk).2) (xm_let (d_J σ kk i.toNatClampNeg v) g))).bind f) := xs_chk (fun h => xs_lastore hd hn h.is rfl (k (d_J σ kk i.toNatClampNeg v)))
theorem zs_aastore16 {i : Int32} {v : Nat} (hd : decode M.2.1 pc = .ok (.aastore, 1)) (hn : pc + 1 = n) (k : ∀ s', xs_ em sg_i M n lv st s' bc bs ((g s').bind f)) : xs_ em sg_i M pc lv (.ref v :: .int i :: .ref kk :: st) σ bc bs ((xm_chk (xm_ic σ kk 16) (xm_chk (xm_ic σ v 0) (xm_chk (xm_in i (σ.2.1 kk).2) (xm_let (d_R σ kk i.toNatClampNeg v) g)))).bind f) := xs_chk (fun h => xs_chk (fun h2 => xs_aastore16 hd hn h.is h2.is rfl (k (d_R σ kk i.toNatClampNeg v))))
theorem zs_aastore17 {i : Int32} {v : Nat} (hd : decode M.2.1 pc = .ok (.aastore, 1)) (hn : pc + 1 = n) (k : ∀ s', xs_ em sg_i M n lv st s' bc bs ((g s').bind f)) : xs_ em sg_i M pc lv (.ref v :: .int i :: .ref kk :: st) σ bc bs ((xm_chk (xm_ic σ kk 17) (xm_chk (xm_ic σ v 1) (xm_chk (xm_in i (σ.2.1 kk).2) (xm_let (d_R σ kk i.toNatClampNeg v) g)))).bind f) := xs_chk (fun h => xs_chk (fun h2 => xs_aastore17 hd hn h.is h2.is rfl (k (d_R σ kk i.toNatClampNeg v))))
theorem zs_alen13 (hd : decode M.2.1 pc = .ok (.arraylength, 1)) (hn : pc + 1 = n) (k : xs_ em sg_i M n lv (.int (Int32.ofNat (σ.2.1 kk).2) :: st) σ bc bs (a.bind f)) : xs_ em sg_i M pc lv (.ref kk :: st) σ bc bs ((xm_chk (xm_ic σ kk 13) a).bind f) := xs_chk (fun h => xs_alen13 hd hn h.is rfl k)
theorem zs_new (hd : decode M.2.1 pc = .ok (.new idx, 3)) (hn : pc + 3 = n) (hw : Cond.classLink M.1.cls idx C ∈ xm_tb) (hinst : Cond.instantiable C N ∈ xm_tb) (hini : Cond.initialized C ∈ xm_tb) (hcl : xm_cl ci C T N ty) (hfd : xm_fd ci N ty) (hb : bc' + 1 ≤ bc ∧ bs' + N ≤ bs) (k : ∀ s', xs_ em sg_i M n lv (.ref σ.1 :: st) s' bc' bs' ((g s').bind f)) : xs_ em sg_i M pc lv st σ bc bs ((xm_let (xm_nw σ ci 0) g).bind f) := xs_new hd hn hw hinst hini hcl hfd rfl hb (k (xm_nw σ ci 0))
theorem zs_newa13 {nn : Int32} (hd : decode M.2.1 pc = .ok (.newarray .int, 2)) (hn : pc + 2 = n) (h0 : ¬ nn < 0) (hN : nn.toNatClampNeg = N) (hby : N * componentBytes (newarray.typeOf .int) ≤ 536870912) (hb : bc' + 1 ≤ bc ∧ bs' + N ≤ bs) (k : ∀ s', xs_ em sg_i M n lv (.ref σ.1 :: st) s' bc' bs' ((g s').bind f)) : xs_ em sg_i M pc lv (.int nn :: st) σ bc bs ((xm_let (xm_nw σ 13 N) g).bind f) := xs_newa13 hd hn h0 hN hby rfl hb (k (xm_nw σ 13 N))
theorem zs_newa14 {nn : Int32} (hd : decode M.2.1 pc = .ok (.newarray .long, 2)) (hn : pc + 2 = n) (h0 : ¬ nn < 0) (hN : nn.toNatClampNeg = N) (hby : N * componentBytes (newarray.typeOf .long) ≤ 536870912) (hb : bc' + 1 ≤ bc ∧ bs' + N ≤ bs) (k : ∀ s', xs_ em sg_i M n lv (.ref σ.1 :: st) s' bc' bs' ((g s').bind f)) : xs_ em sg_i M pc lv (.int nn :: st) σ bc bs ((xm_let (xm_nw σ 14 N) g).bind f) := xs_newa14 hd hn h0 hN hby rfl hb (k (xm_nw σ 14 N))
theorem zs_newa15 {nn : Int32} (hd : decode M.2.1 pc = .ok (.newarray .boolean, 2)) (hn : pc + 2 = n) (h0 : ¬ nn < 0) (hN : nn.toNatClampNeg = N) (hby : N * componentBytes (newarray.typeOf .boolean) ≤ 536870912) (hb : bc' + 1 ≤ bc ∧ bs' + N ≤ bs) (k : ∀ s', xs_ em sg_i M n lv (.ref σ.1 :: st) s' bc' bs' ((g s').bind f)) : xs_ em sg_i M pc lv (.int nn :: st) σ bc bs ((xm_let (xm_nw σ 15 N) g).bind f) := xs_newa15 hd hn h0 hN hby rfl hb (k (xm_nw σ 15 N))
theorem zs_newq16 {nn : Int32} (hd : decode M.2.1 pc = .ok (.anewarray idx, 3)) (hn : pc + 3 = n) (hw : Cond.classLink M.1.cls idx RX0 ∈ xm_tb) (h0 : ¬ nn < 0) (hN : nn.toNatClampNeg = N) (hby : N * 4 ≤ 536870912) (hb : bc' + 1 ≤ bc ∧ bs' + N ≤ bs) (k : ∀ s', xs_ em sg_i M n lv (.ref σ.1 :: st) s' bc' bs' ((g s').bind f)) : xs_ em sg_i M pc lv (.int nn :: st) σ bc bs ((xm_let (xm_nw σ 16 N) g).bind f) := xs_newq16 hd hn hw h0 hN hby rfl hb (k (xm_nw σ 16 N))
theorem zs_newq17 {nn : Int32} (hd : decode M.2.1 pc = .ok (.anewarray idx, 3)) (hn : pc + 3 = n) (hw : Cond.classLink M.1.cls idx RX1 ∈ xm_tb) (h0 : ¬ nn < 0) (hN : nn.toNatClampNeg = N) (hby : N * 4 ≤ 536870912) (hb : bc' + 1 ≤ bc ∧ bs' + N ≤ bs) (k : ∀ s', xs_ em sg_i M n lv (.ref σ.1 :: st) s' bc' bs' ((g s').bind f)) : xs_ em sg_i M pc lv (.int nn :: st) σ bc bs ((xm_let (xm_nw σ 17 N) g).bind f) := xs_newq17 hd hn hw h0 hN hby rfl hb (k (xm_nw σ 17 N))
theorem xs_icmp_ge_n {S : Type} {sg : S → xm_S} {σ : S} {o : Option (α × S)} {x y : Int32} {off : Int} {tgt : Nat} (hd : decode M.2.1 pc = .ok (.if_icmp .ge off, 3)) (ht : (pc : Int) + off = (tgt : Int)) (hn : pc + 3 = n) (hc : ¬ y ≤ x) (k : xs_ em sg M n lv st σ bc bs o) : xs_ em sg M pc lv (.int y :: .int x :: st) σ bc bs o := by
  subst hn
  intro r σ' ho G base b L xs l p e R s m args below meth c H locs cells slots ls Q hC hf hlo hcc hs hL hW hz hS kret
  exact lv_icmp_ge hC.1 hC.2.1 hd ht (fun q => absurd q hc) (fun _ => k r σ' ho G base b L xs l p e R s m args below meth c H locs cells slots ls Q hC hf hlo hcc hs hL hW hz hS kret)
theorem xs_icmp_ge_y {S : Type} {sg : S → xm_S} {σ : S} {o : Option (α × S)} {x y : Int32} {off : Int} {tgt : Nat} (hd : decode M.2.1 pc = .ok (.if_icmp .ge off, 3)) (ht : (pc : Int) + off = (tgt : Int)) (hc : y ≤ x) (k : xs_ em sg M tgt lv st σ bc bs o) : xs_ em sg M pc lv (.int y :: .int x :: st) σ bc bs o := by
  intro r σ' ho G base b L xs l p e R s m args below meth c H locs cells slots ls Q hC hf hlo hcc hs hL hW hz hS kret
  exact lv_icmp_ge hC.1 hC.2.1 hd ht (fun _ => k r σ' ho G base b L xs l p e R s m args below meth c H locs cells slots ls Q hC hf hlo hcc hs hL hW hz hS kret) (fun q => absurd hc q)
variable {Nm : xm_M} {na mc ms : Nat} {oN : Option (Unit × xm_S)} {F : Unit × xm_S → Option β} {stk : List Value} {lv0 : List (Option Value)}
theorem zs_callc (hd : decode M.2.1 pc = .ok (.invokespecial idx, 3)) (hn : pc + 3 = n) (hok : xm_ok Nm na) (hw : Cond.methodLink M.1.cls idx Nm.1 ∈ xm_tb) (hin : Cond.instanceMethod Nm.1 ∈ xm_tb) (hname : Nm.1.name = "<init>") (hret : Nm.2.2.2.1 = none) (hR : Nm.2.2.2.2.1 + 1 ≤ M.2.2.2.2.1 ∧ 8 + (Nm.2.2.1 + 11) + Nm.2.2.2.2.2 ≤ M.2.2.2.2.2) (rest : List Value) (hstk : stk = .ref kk :: rest) (hla : 0 = na) (hlen : (lg_sl [.ref kk]).length ≤ Nm.2.2.1) (he : xm_en Nm.2.2.1 [.ref kk] = lv0) (hrest : (rest.map fun v => v.category).sum ≤ 8) (hb : bc' + mc ≤ bc ∧ bs' + ms ≤ bs) (hN : xs_ (fun _ : Unit => none) sg_i Nm 0 lv0 [] σ mc ms oN) (k : ∀ q : Unit × xm_S, xs_ em sg_i M n lv rest q.2 bc' bs' ((F q).bind f)) : xs_ em sg_i M pc lv stk σ bc bs ((oN.bind (fun q => xm_chk (q.2.1 = σ.1 + mc) (F q))).bind f) := by
  cases hoN : oN with
  | none => exact xs_none
  | some q =>
    rw [hoN] at hN
    refine xs_end (xs_chk (fun h => ?_))
    exact xs_callc (F := F) (oN := some q) hd hn hok hw hin hname hret hR [] rest hstk hla hlen he hrest hb (fun q' hq' => by cases hq'; exact h) hN (fun v σ1 => k (v, σ1))
theorem zs_callcn {host : String} (hd : decode M.2.1 pc = .ok (.invokespecial idx, 3)) (hn : pc + 3 = n) (hok : xm_ok Nm na) (hw : Cond.methodLinkNest M.1.cls idx Nm.1 host ∈ lw_tbl) (hin : Cond.instanceMethod Nm.1 ∈ xm_tb) (hname : Nm.1.name = "<init>") (hret : Nm.2.2.2.1 = none) (hR : Nm.2.2.2.2.1 + 1 ≤ M.2.2.2.2.1 ∧ 8 + (Nm.2.2.1 + 11) + Nm.2.2.2.2.2 ≤ M.2.2.2.2.2) (rest : List Value) (hstk : stk = .ref kk :: rest) (hla : 0 = na) (hlen : (lg_sl [.ref kk]).length ≤ Nm.2.2.1) (he : xm_en Nm.2.2.1 [.ref kk] = lv0) (hrest : (rest.map fun v => v.category).sum ≤ 8) (hb : bc' + mc ≤ bc ∧ bs' + ms ≤ bs) (hN : xs_ (fun _ : Unit => none) sg_i Nm 0 lv0 [] σ mc ms oN) (k : ∀ q : Unit × xm_S, xs_ em sg_i M n lv rest q.2 bc' bs' ((F q).bind f)) : xs_ em sg_i M pc lv stk σ bc bs ((oN.bind (fun q => xm_chk (q.2.1 = σ.1 + mc) (F q))).bind f) := by
  cases hoN : oN with
  | none => exact xs_none
  | some q =>
    rw [hoN] at hN
    refine xs_end (xs_chk (fun h => ?_))
    exact xs_callcn (F := F) (oN := some q) hd hn hok hw hin hname hret hR [] rest hstk hla hlen he hrest hb (fun q' hq' => by cases hq'; exact h) hN (fun v σ1 => k (v, σ1))
theorem zs_callsv (hd : decode M.2.1 pc = .ok (.invokestatic idx, 3)) (hn : pc + 3 = n) (hok : xm_ok Nm na) (hw : Cond.methodLink M.1.cls idx Nm.1 ∈ xm_tb) (hst : Cond.static Nm.1 ∈ xm_tb) (hR : Nm.2.2.2.2.1 + 1 ≤ M.2.2.2.2.1 ∧ 8 + (Nm.2.2.1 + 11) + Nm.2.2.2.2.2 ≤ M.2.2.2.2.2) (As : List Value) (rest : List Value) (hstk : stk = As.reverse ++ rest) (hla : As.length = na) (hlen : (lg_sl As).length ≤ Nm.2.2.1) (he : xm_en Nm.2.2.1 As = lv0) (hrest : (rest.map fun v => v.category).sum ≤ 8) (hN : xs_ (fun _ : Unit => none) sg_i Nm 0 lv0 [] σ 0 0 oN) (k : ∀ q : Unit × xm_S, xs_ em sg_i M n lv rest q.2 bc bs ((F q).bind f)) : xs_ em sg_i M pc lv stk σ bc bs ((oN.bind (fun q => xm_chk (q.2.1 = σ.1 + 0) (F q))).bind f) := by
  cases hoN : oN with
  | none => exact xs_none
  | some q =>
    rw [hoN] at hN
    refine xs_end (xs_chk (fun h => ?_))
    exact xs_calls (F := F) (oN := some q) (mc := 0) (ms := 0) (bc' := bc) (bs' := bs) hd hn hok hw hst hR As rest hstk hla hlen he hrest ⟨Nat.le_refl _, Nat.le_refl _⟩ (fun q' hq' => by cases hq'; exact h) hN (fun v σ1 => k (v, σ1))
theorem zs_callvv (hd : decode M.2.1 pc = .ok (.invokevirtual idx, 3)) (hn : pc + 3 = n) (hok : xm_ok Nm na) (hw : Cond.methodLink M.1.cls idx Nm.1 ∈ xm_tb) (hin : Cond.instanceMethod Nm.1 ∈ xm_tb) (hse : Cond.selects Nm.1.cls Nm.1 Nm.1 ∈ xm_tb) (hR : Nm.2.2.2.2.1 + 1 ≤ M.2.2.2.2.1 ∧ 8 + (Nm.2.2.1 + 11) + Nm.2.2.2.2.2 ≤ M.2.2.2.2.2) (As : List Value) (rest : List Value) (hstk : stk = As.reverse ++ .ref kk :: rest) (hla : As.length = na) (hlen : (lg_sl (.ref kk :: As)).length ≤ Nm.2.2.1) (he : xm_en Nm.2.2.1 (.ref kk :: As) = lv0) (hrest : (rest.map fun v => v.category).sum ≤ 8) (hN : xs_ (fun _ : Unit => none) sg_i Nm 0 lv0 [] σ 0 0 oN) (hc13 : ci < 13) (hcl : vwCl[ci]? = some (Nm.1.cls, T, N)) (k : ∀ q : Unit × xm_S, xs_ em sg_i M n lv rest q.2 bc bs ((F q).bind f)) : xs_ em sg_i M pc lv stk σ bc bs ((xm_chk (xm_ic σ kk ci) (oN.bind (fun q => xm_chk (q.2.1 = σ.1 + 0) (F q)))).bind f) := by
  refine xs_chk (fun hk => ?_)
  cases hoN : oN with
  | none => exact xs_none
  | some q =>
    rw [hoN] at hN
    refine xs_end (xs_chk (fun h => ?_))
    exact xs_callv (F := F) (oN := some q) (mc := 0) (ms := 0) (bc' := bc) (bs' := bs) hd hn hok hw hin hse hR As rest hstk hla hlen he hrest ⟨Nat.le_refl _, Nat.le_refl _⟩ (fun q' hq' => by cases hq'; exact h) hN hk.is hc13 hcl (fun v σ1 => k (v, σ1))
end XR_
