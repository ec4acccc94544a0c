def xm_u2 {α : Type} (f : Nat → Nat → α) (k j : Nat) (v : α) : Nat → Nat → α := fun a b => if a = k then (if b = j then v else f a b) else f a b
def xm_u1 {α : Type} (f : Nat → α) (k : Nat) (v : α) : Nat → α := fun a => if a = k then v else f a
theorem xm_u2_ne {α : Type} {f : Nat → Nat → α} {k j : Nat} {v : α} {a : Nat} (h : a ≠ k) : xm_u2 f k j v a = f a := by
  funext b
  simp [xm_u2, h]
theorem xm_u1_ne {α : Type} {f : Nat → α} {k : Nat} {v : α} {a : Nat} (h : a ≠ k) : xm_u1 f k v a = f a := by
  simp [xm_u1, h]
theorem xm_u1_eq {α : Type} {f : Nat → α} {k : Nat} {v : α} : xm_u1 f k v k = v := by
  simp [xm_u1]
theorem xm_u2_i {f : Nat → Nat → Int32} {k j : Nat} {v : Int32} : xm_u2 f k j v k = upd (f k) j v := by
  funext b
  simp [xm_u2, upd]
theorem xm_u2_l {f : Nat → Nat → Int64} {k j : Nat} {v : Int64} : xm_u2 f k j v k = vp_updL (f k) j v := by
  funext b
  simp [xm_u2, vp_updL]
theorem xm_ent_congr {G : xm_G} {base : Nat} {σ σ' : xm_S} {k : Nat} (h1 : σ'.2.1 k = σ.2.1 k) (h2 : σ'.2.2.1 k = σ.2.2.1 k) (h3 : σ'.2.2.2.1 k = σ.2.2.2.1 k) (h4 : σ'.2.2.2.2 k = σ.2.2.2.2 k) : xm_ent G base σ' k = xm_ent G base σ k := by
  unfold xm_ent xm_val
  rw [h1, h2, h3, h4]
section XA_
variable {G : xm_G} {base : Nat} {σ : xm_S} {k n : Nat}
theorem xm_at13 (h : xm_is σ k 13 n) : (xm_ws G base σ)[k]? = some (base + k, .inl (G.2.1, n, .inl (σ.2.2.2.1 k))) := by
  rw [xm_ws_at h.1, xm_ent, h.2]; rfl
theorem xm_at14 (h : xm_is σ k 14 n) : (xm_ws G base σ)[k]? = some (base + k, .inl (G.2.2.1, n, .inr (.inl (σ.2.2.2.2 k)))) := by
  rw [xm_ws_at h.1, xm_ent, h.2]; rfl
theorem xm_at15 (h : xm_is σ k 15 n) : (xm_ws G base σ)[k]? = some (base + k, .inl (G.2.2.2.1, n, .inl (σ.2.2.2.1 k))) := by
  rw [xm_ws_at h.1, xm_ent, h.2]; rfl
theorem xm_at16 (h : xm_is σ k 16 n) : (xm_ws G base σ)[k]? = some (base + k, .inl (G.2.2.2.2.1, n, .inr (.inr (.inr (.inr (fun j => (σ.2.2.1 k j).map (fun a => base + a))))))) := by
  rw [xm_ws_at h.1, xm_ent, h.2]; rfl
theorem xm_at17 (h : xm_is σ k 17 n) : (xm_ws G base σ)[k]? = some (base + k, .inl (G.2.2.2.2.2, n, .inr (.inr (.inr (.inr (fun j => (σ.2.2.1 k j).map (fun a => base + a))))))) := by
  rw [xm_ws_at h.1, xm_ent, h.2]; rfl
theorem xm_ent_ob {ci : Nat} (hc : ci < 13) (h : σ.2.1 k = (ci, n)) : xm_ent G base σ k = .inr (ci, (xm_ft ci).mapIdx (fun j t => xm_val base σ k j t)) := by
  unfold xm_ent
  rw [h]
  dsimp only
  rw [if_neg (by omega), if_neg (by omega), if_neg (by omega), if_neg (by omega), if_neg (by omega)]
theorem xm_atob {ci : Nat} (hc : ci < 13) (h : xm_is σ k ci n) : (xm_ws G base σ)[k]? = some (base + k, .inr (ci, (xm_ft ci).mapIdx (fun j t => xm_val base σ k j t))) := by
  rw [xm_ws_at h.1, xm_ent_ob hc h.2]
end XA_
/-- a class's rows -/
def xm_cl (ci : Nat) (C : String) (T : u_T) (N : Nat) (ty : Nat → FieldType) : Prop := vwCl[ci]? = some (C, T, N) ∧ (∀ w ∈ u_ws C T N, w ∈ xm_tb) ∧ ci < 13 ∧ (∀ k, k < N → parseFieldDescriptor (T k).2.2.1 = some (ty k)) ∧ (∀ a, a < N → ∀ b, b < N → a ≠ b → (T a).2.1 ≠ (T b).2.1) ∧ (xm_ft ci).length = N
theorem xc_0 : xm_cl 0 RX0 TX0 2 tyX0 := ⟨rfl, ix_X0, by decide, tyX0_ok, nmX0, rfl⟩
theorem xc_1 : xm_cl 1 RX1 TX1 5 tyX1 := ⟨rfl, ix_X1, by decide, tyX1_ok, nmX1, rfl⟩
theorem xc_2 : xm_cl 2 RX2 TX2 1 tyX2 := ⟨rfl, ix_X2, by decide, tyX2_ok, nmX2, rfl⟩
theorem xc_3 : xm_cl 3 RX3 TX3 8 tyX3 := ⟨rfl, ix_X3, by decide, tyX3_ok, nmX3, rfl⟩
theorem xc_4 : xm_cl 4 RX4 TX4 3 tyX4 := ⟨rfl, ix_X4, by decide, tyX4_ok, nmX4, rfl⟩
theorem xc_5 : xm_cl 5 RX5 TX5 7 tyX5 := ⟨rfl, ix_X5, by decide, tyX5_ok, nmX5, rfl⟩
theorem xc_6 : xm_cl 6 RX6 TX6 4 tyX6 := ⟨rfl, ix_X6, by decide, tyX6_ok, nmX6, rfl⟩
theorem xc_7 : xm_cl 7 RX7 TX7 3 tyX7 := ⟨rfl, ix_X7, by decide, tyX7_ok, nmX7, rfl⟩
theorem xc_8 : xm_cl 8 RX8 TX8 2 tyX8 := ⟨rfl, ix_X8, by decide, tyX8_ok, nmX8, rfl⟩
theorem xc_9 : xm_cl 9 RX9 TX9 4 tyX9 := ⟨rfl, ix_X9, by decide, tyX9_ok, nmX9, rfl⟩
theorem xc_10 : xm_cl 10 RX10 TX10 6 tyX10 := ⟨rfl, ix_X10, by decide, tyX10_ok, nmX10, rfl⟩
theorem xc_11 : xm_cl 11 RX11 TX11 10 tyX11 := ⟨rfl, ix_X11, by decide, tyX11_ok, nmX11, rfl⟩
theorem xc_12 : xm_cl 12 RX12 TX12 50 tyX12 := ⟨rfl, ix_X12, by decide, tyX12_ok, nmX12, rfl⟩
def xm_tk (t : FieldType) : Nat := match t with
  | .int => 0
  | .long => 1
  | .boolean => 3
  | .object _ => 2
  | .array _ => 2
  | _ => 9
/-- a field's link: own class and entry, class number, slot and its kind -/
def xm_fl (own : String) (idx ci j t : Nat) (C : String) (T : u_T) (N : Nat) (ty : Nat → FieldType) : Prop := xm_cl ci C T N ty ∧ j < N ∧ Cond.fieldLink own idx (T j).1 (T j).2.1 (T j).2.2.1 ∈ xm_tb ∧ (xm_ft ci)[j]? = some t ∧ xm_tk (ty j) = t
theorem xm_fs_at {base : Nat} {σ : xm_S} {k ci j t : Nat} (h : (xm_ft ci)[j]? = some t) : ((xm_ft ci).mapIdx (fun j t => xm_val base σ k j t))[j]? = some (xm_val base σ k j t) := by
  rw [List.getElem?_mapIdx, h]; rfl
theorem xm_fs_set {base : Nat} {σ σ' : xm_S} {k ci j t : Nat} {v : Value} (h : (xm_ft ci)[j]? = some t) (hv : xm_val base σ' k j t = v) (hne : ∀ j' t', j' ≠ j → xm_val base σ' k j' t' = xm_val base σ k j' t') : ((xm_ft ci).mapIdx (fun j t => xm_val base σ k j t)).set j v = (xm_ft ci).mapIdx (fun j t => xm_val base σ' k j t) := by
  apply List.ext_getElem?
  intro i
  rw [List.getElem?_set, List.getElem?_mapIdx, List.getElem?_mapIdx]
  by_cases hi : j = i
  · subst hi
    have hl : j < (xm_ft ci).length := (List.getElem?_eq_some_iff.mp h).1
    rw [if_pos rfl, if_pos (by simpa using hl), h]
    simp [hv]
  · rw [if_neg hi]
    cases (xm_ft ci)[i]? with
    | none => rfl
    | some t' => simp [hne i t' (fun q => hi q.symm)]
section XR_
variable {α S : Type} {em : α → Option Value} {sg : S → xm_S} {M : xm_M} {pc n : Nat} {lv : List (Option Value)} {st : List Value} {σ : S} {bc bs : Nat} {o : Option (α × S)}
theorem xs_ldc {idx : Nat} {v : Int32} (hd : decode M.2.1 pc = .ok (.ldc idx, 2)) (hn : pc + 2 = n) (hw : Cond.constant M.1.cls idx v ∈ xm_tb) (k : xs_ em sg M n lv (.int v :: st) σ bc bs o) : xs_ em sg M pc lv st σ bc bs o := by
  subst hn
  intro r σ' ho G base b L xs l p e R s m args below meth c H locs cells slots ls Q hC hf hlo hc hs hL hW hz hS kret
  exact lv_ldc hC.1 hC.2.1 hC.2.2.2.2.1 (hC.2.2.2.2.2.1 _ hw) hd (k r σ' ho G base b L xs l p e R s m args below meth c H locs cells slots ls Q hC hf hlo hc hs hL hW hz hS kret)
theorem xs_ldc_w {idx : Nat} {v : Int32} (hd : decode M.2.1 pc = .ok (.ldc_w idx, 3)) (hn : pc + 3 = n) (hw : Cond.constant M.1.cls idx v ∈ xm_tb) (k : xs_ em sg M n lv (.int v :: st) σ bc bs o) : xs_ em sg M pc lv st σ bc bs o := by
  subst hn
  intro r σ' ho G base b L xs l p e R s m args below meth c H locs cells slots ls Q hC hf hlo hc hs hL hW hz hS kret
  exact lv_ldcw hC.1 hC.2.1 hC.2.2.2.2.1 (hC.2.2.2.2.2.1 _ hw) hd (k r σ' ho G base b L xs l p e R s m args below meth c H locs cells slots ls Q hC hf hlo hc hs hL hW hz hS kret)
theorem xs_ldc2 {idx : Nat} {v : Int64} (hd : decode M.2.1 pc = .ok (.ldc2_w idx, 3)) (hn : pc + 3 = n) (hw : Cond.constantLong M.1.cls idx v ∈ xm_tb) (k : xs_ em sg M n lv (.long v :: st) σ bc bs o) : xs_ em sg M pc lv st σ bc bs o := by
  subst hn
  intro r σ' ho G base b L xs l p e R s m args below meth c H locs cells slots ls Q hC hf hlo hc hs hL hW hz hS kret
  exact lv_ldc2 hC.1 hC.2.1 hC.2.2.2.2.1 (hC.2.2.2.2.2.1 _ hw) hd (k r σ' ho G base b L xs l p e R s m args below meth c H locs cells slots ls Q hC hf hlo hc hs hL hW hz hS kret)
theorem xs_getv {idx ci j t kk nn : Nat} {C : String} {T : u_T} {N : Nat} {ty : Nat → FieldType} {w : Value} (hd : decode M.2.1 pc = .ok (.getfield idx, 3)) (hn : pc + 3 = n) (hl : xm_fl M.1.cls idx ci j t C T N ty) (hk : xm_is (sg σ) kk ci nn) (hv : ∀ base b : Nat, xm_val base (sg σ) kk j t = xm_r base b w) (k : xs_ em sg M n lv (w :: st) σ bc bs o) : xs_ em sg M pc lv (.ref kk :: st) σ bc bs o := by
  subst hn
  intro r σ' ho G base b L xs l p e R s m args below meth c H locs cells slots ls Q hC hf hlo hc hs hL hW hz hS kret
  obtain ⟨⟨h1, h2, h3, h4, h5, h6⟩, h7, h8, h9, h10⟩ := hl
  exact va_get (ref := (T j).1) hC.1 hC.2.1 hC.2.2.2.2.2.1 h2 hC.2.2.2.2.1 hC.2.2.2.2.2.2.2.2.1 hW kk (xm_atob h3 hk) h1 j h7 (hC.2.2.2.2.2.1 _ h8) (fun _ q => q) ((xm_fs_at h9).trans (congrArg some (hv base b))) hd (k r σ' ho G base b L xs l p e R s m args below meth c H locs cells slots ls Q hC hf hlo hc hs hL hW hz hS kret)
theorem xs_geti {idx ci j t kk nn : Nat} {C : String} {T : u_T} {N : Nat} {ty : Nat → FieldType} (hd : decode M.2.1 pc = .ok (.getfield idx, 3)) (hn : pc + 3 = n) (hl : xm_fl M.1.cls idx ci j t C T N ty) (ht : t = 0 ∨ t = 3) (hk : xm_is (sg σ) kk ci nn) (k : xs_ em sg M n lv (.int ((sg σ).2.2.2.1 kk j) :: st) σ bc bs o) : xs_ em sg M pc lv (.ref kk :: st) σ bc bs o :=
  xs_getv hd hn hl hk (fun base b => by rcases ht with rfl | rfl <;> rfl) k
theorem xs_getl {idx ci j kk nn : Nat} {C : String} {T : u_T} {N : Nat} {ty : Nat → FieldType} (hd : decode M.2.1 pc = .ok (.getfield idx, 3)) (hn : pc + 3 = n) (hl : xm_fl M.1.cls idx ci j 1 C T N ty) (hk : xm_is (sg σ) kk ci nn) (k : xs_ em sg M n lv (.long ((sg σ).2.2.2.2 kk j) :: st) σ bc bs o) : xs_ em sg M pc lv (.ref kk :: st) σ bc bs o :=
  xs_getv hd hn hl hk (fun base b => rfl) k
theorem xs_getr {idx ci j kk nn a : Nat} {C : String} {T : u_T} {N : Nat} {ty : Nat → FieldType} (hd : decode M.2.1 pc = .ok (.getfield idx, 3)) (hn : pc + 3 = n) (hl : xm_fl M.1.cls idx ci j 2 C T N ty) (hk : xm_is (sg σ) kk ci nn) (hr : (sg σ).2.2.1 kk j = some a) (k : xs_ em sg M n lv (.ref a :: st) σ bc bs o) : xs_ em sg M pc lv (.ref kk :: st) σ bc bs o :=
  xs_getv hd hn hl hk (fun base b => by unfold xm_val; rw [hr]; rfl) k
theorem xs_putv {idx ci j t kk nn : Nat} {C : String} {T : u_T} {N : Nat} {ty : Nat → FieldType} {w : Value} {σ1 : S} (hd : decode M.2.1 pc = .ok (.putfield idx, 3)) (hn : pc + 3 = n) (hl : xm_fl M.1.cls idx ci j t C T N ty) (hfin : (T j).2.2.2 = false ∨ ((T j).2.2.2 = true ∧ M.1.name = "<init>" ∧ (T j).1 = M.1.cls)) (hk : xm_is (sg σ) kk ci nn) (hnar : ∀ base b : Nat, narrow (ty j) (xm_r base b w) = xm_r base b w) (hfit : ∀ base b : Nat, fits (ty j) (xm_r base b w) = true)
    (hK : (sg σ1).1 = (sg σ).1) (hsh : (sg σ1).2.1 = (sg σ).2.1) (hv : ∀ base b : Nat, xm_val base (sg σ1) kk j t = xm_r base b w) (hoth : ∀ (base j' t' : Nat), j' ≠ j → xm_val base (sg σ1) kk j' t' = xm_val base (sg σ) kk j' t') (hcell : ∀ k', k' ≠ kk → (sg σ1).2.2.1 k' = (sg σ).2.2.1 k' ∧ (sg σ1).2.2.2.1 k' = (sg σ).2.2.2.1 k' ∧ (sg σ1).2.2.2.2 k' = (sg σ).2.2.2.2 k')
    (k : xs_ em sg M n lv st σ1 bc bs o) : xs_ em sg M pc lv (w :: .ref kk :: st) σ bc bs o := by
  subst hn
  intro r σ' ho G base b L xs l p e R s m args below meth c H locs cells slots ls Q hC hf hlo hc hs hL hW hz hS kret
  obtain ⟨⟨h1, h2, h3, h4, h5, h6⟩, h7, h8, h9, h10⟩ := hl
  have hset : (xm_ws G base (sg σ)).set kk (base + kk, .inr (ci, ((xm_ft ci).mapIdx (fun j t => xm_val base (sg σ) kk j t)).set j (xm_r base b w))) = xm_ws G base (sg σ1) := by
    refine xm_set hK hk.1 ?_ (fun k' hk' => xm_ent_congr (by rw [hsh]) (hcell k' hk').1 (hcell k' hk').2.1 (hcell k' hk').2.2)
    rw [xm_ent_ob h3 (by rw [hsh]; exact hk.2), xm_fs_set h9 (hv base b) (fun j' t' => hoth base j' t')]
  have cont : ∀ (H1 : Heap) (locs1 : List Loc), va_P G.1 vwCl ((xm_ws G base (sg σ)).set kk (base + kk, .inr (ci, ((xm_ft ci).mapIdx (fun j t => xm_val base (sg σ) kk j t)).set j (xm_r base b w)))) H1 → va_D (fun q => base ≤ q) ((xm_ws G base (sg σ)).set kk (base + kk, .inr (ci, ((xm_ft ci).mapIdx (fun j t => xm_val base (sg σ) kk j t)).set j (xm_r base b w)))) → va_S (fun q => base ≤ q) s.heap H1 locs1 → W p l e R s m args below meth c H1 locs1 cells slots Q (F0 m (pc + 3) ls (st.map (xm_r base b))) := by
    intro H1 locs1 hP1 _ hS1
    rw [hset] at hP1
    exact k r σ' ho G base b L xs l p e R s m args below meth c H1 locs1 cells slots ls Q hC hf hlo hc hs hL hP1 (by rw [hz, hK]) hS1 kret
  have hjl : j < ((xm_ft ci).mapIdx (fun j t => xm_val base (sg σ) kk j t)).length := by
    rw [List.length_mapIdx]
    exact (List.getElem?_eq_some_iff.mp h9).1
  rcases hfin with hfin | ⟨hfin, hnm, hdc⟩
  · exact va_put (ref := (T j).1) hC.1 hC.2.1 hC.2.2.2.2.2.1 h2 ty h4 h5 hC.2.2.2.2.1 hC.2.2.2.2.2.2.2.2.1 hW xm_D hS kk (xm_atob h3 hk) h1 j h7 (hC.2.2.2.2.2.1 _ h8) (fun _ q => q) hfin (h4 j h7) (hnar base b) (hfit base b) hjl hd cont
  · exact va_putF (ref := (T j).1) hC.1 hC.2.1 hC.2.2.2.2.2.1 h2 ty h4 h5 hC.2.2.2.2.1 hC.2.2.2.2.2.2.2.2.1 hW xm_D hS kk (xm_atob h3 hk) h1 j h7 (hC.2.2.2.2.2.1 _ h8) (fun _ q => q) hfin (hC.2.2.2.2.2.2.2.1.trans hnm) hdc (h4 j h7) (hnar base b) (hfit base b) hjl hd cont
theorem xm_val_u2i {base : Nat} {σ σ1 : xm_S} {kk j : Nat} {v : Int32} (h : σ1 = (σ.1, σ.2.1, σ.2.2.1, xm_u2 σ.2.2.2.1 kk j v, σ.2.2.2.2)) (j' t' : Nat) (hj : j' ≠ j) : xm_val base σ1 kk j' t' = xm_val base σ kk j' t' := by
  subst h
  simp [xm_val, xm_u2, hj]
theorem xm_val_u2l {base : Nat} {σ σ1 : xm_S} {kk j : Nat} {v : Int64} (h : σ1 = (σ.1, σ.2.1, σ.2.2.1, σ.2.2.2.1, xm_u2 σ.2.2.2.2 kk j v)) (j' t' : Nat) (hj : j' ≠ j) : xm_val base σ1 kk j' t' = xm_val base σ kk j' t' := by
  subst h
  simp [xm_val, xm_u2, hj]
theorem xm_val_u2r {base : Nat} {σ σ1 : xm_S} {kk j : Nat} {v : Option Nat} (h : σ1 = (σ.1, σ.2.1, xm_u2 σ.2.2.1 kk j v, σ.2.2.2.1, σ.2.2.2.2)) (j' t' : Nat) (hj : j' ≠ j) : xm_val base σ1 kk j' t' = xm_val base σ kk j' t' := by
  subst h
  simp [xm_val, xm_u2, hj]
theorem xs_puti {idx ci j kk nn : Nat} {C : String} {T : u_T} {N : Nat} {ty : Nat → FieldType} {v : Int32} {σ1 : S} (hd : decode M.2.1 pc = .ok (.putfield idx, 3)) (hn : pc + 3 = n) (hl : xm_fl M.1.cls idx ci j 0 C T N ty) (hfin : (T j).2.2.2 = false) (hk : xm_is (sg σ) kk ci nn) (h1 : sg σ1 = ((sg σ).1, (sg σ).2.1, (sg σ).2.2.1, xm_u2 (sg σ).2.2.2.1 kk j v, (sg σ).2.2.2.2))
    (k : xs_ em sg M n lv st σ1 bc bs o) : xs_ em sg M pc lv (.int v :: .ref kk :: st) σ bc bs o := by
  have hty : ty j = .int := by
    have := hl.2.2.2.2
    cases hq : ty j <;> rw [hq] at this <;> simp [xm_tk] at this
  refine xs_putv hd hn hl (Or.inl hfin) hk (fun _ _ => by rw [hty]; rfl) (fun _ _ => by rw [hty]; rfl) (by rw [h1]) (by rw [h1]) (fun base b => ?_) (fun base j' t' hj => xm_val_u2i h1 j' t' hj) (fun k' hk' => ?_) k
  · rw [h1]; simp [xm_val, xm_u2, xm_r]
  · rw [h1]; exact ⟨rfl, xm_u2_ne hk', rfl⟩
theorem xs_putz {β : Type} {idx ci j kk nn : Nat} {C : String} {T : u_T} {N : Nat} {ty : Nat → FieldType} {v : Int32} {σ1 : S} {a : Option β} {f : β → Option (α × S)} (hd : decode M.2.1 pc = .ok (.putfield idx, 3)) (hn : pc + 3 = n) (hl : xm_fl M.1.cls idx ci j 3 C T N ty) (hfin : (T j).2.2.2 = false) (hk : xm_is (sg σ) kk ci nn) (h1 : sg σ1 = ((sg σ).1, (sg σ).2.1, (sg σ).2.2.1, xm_u2 (sg σ).2.2.2.1 kk j v, (sg σ).2.2.2.2))
    (k : xs_ em sg M n lv st σ1 bc bs (a.bind f)) : xs_ em sg M pc lv (.int v :: .ref kk :: st) σ bc bs ((xm_chk (v = 0 ∨ v = 1) a).bind f) := by
  have hty : ty j = .boolean := by
    have := hl.2.2.2.2
    cases hq : ty j <;> rw [hq] at this <;> simp [xm_tk] at this
  by_cases hch : v = 0 ∨ v = 1
  · rw [xm_chk, if_pos hch]
    refine xs_putv hd hn hl (Or.inl hfin) hk (fun _ _ => by rw [hty]; rcases hch with rfl | rfl <;> rfl) (fun _ _ => by rw [hty]; rcases hch with rfl | rfl <;> rfl) (by rw [h1]) (by rw [h1]) (fun base b => ?_) (fun base j' t' hj => xm_val_u2i h1 j' t' hj) (fun k' hk' => ?_) k
    · rw [h1]; simp [xm_val, xm_u2, xm_r]
    · rw [h1]; exact ⟨rfl, xm_u2_ne hk', rfl⟩
  · rw [xm_chk, if_neg hch]
    exact xs_none
theorem xs_putl {idx ci j kk nn : Nat} {C : String} {T : u_T} {N : Nat} {ty : Nat → FieldType} {v : Int64} {σ1 : S} (hd : decode M.2.1 pc = .ok (.putfield idx, 3)) (hn : pc + 3 = n) (hl : xm_fl M.1.cls idx ci j 1 C T N ty) (hfin : (T j).2.2.2 = false) (hk : xm_is (sg σ) kk ci nn) (h1 : sg σ1 = ((sg σ).1, (sg σ).2.1, (sg σ).2.2.1, (sg σ).2.2.2.1, xm_u2 (sg σ).2.2.2.2 kk j v))
    (k : xs_ em sg M n lv st σ1 bc bs o) : xs_ em sg M pc lv (.long v :: .ref kk :: st) σ bc bs o := by
  have hty : ty j = .long := by
    have := hl.2.2.2.2
    cases hq : ty j <;> rw [hq] at this <;> simp [xm_tk] at this
  refine xs_putv hd hn hl (Or.inl hfin) hk (fun _ _ => by rw [hty]; rfl) (fun _ _ => by rw [hty]; rfl) (by rw [h1]) (by rw [h1]) (fun base b => ?_) (fun base j' t' hj => xm_val_u2l h1 j' t' hj) (fun k' hk' => ?_) k
  · rw [h1]; simp [xm_val, xm_u2, xm_r]
  · rw [h1]; exact ⟨rfl, rfl, xm_u2_ne hk'⟩
theorem xs_putr {idx ci j kk nn a : Nat} {C : String} {T : u_T} {N : Nat} {ty : Nat → FieldType} {σ1 : S} (hd : decode M.2.1 pc = .ok (.putfield idx, 3)) (hn : pc + 3 = n) (hl : xm_fl M.1.cls idx ci j 2 C T N ty) (hfin : (T j).2.2.2 = true ∧ M.1.name = "<init>" ∧ (T j).1 = M.1.cls) (hk : xm_is (sg σ) kk ci nn) (h1 : sg σ1 = ((sg σ).1, (sg σ).2.1, xm_u2 (sg σ).2.2.1 kk j (some a), (sg σ).2.2.2.1, (sg σ).2.2.2.2))
    (k : xs_ em sg M n lv st σ1 bc bs o) : xs_ em sg M pc lv (.ref a :: .ref kk :: st) σ bc bs o := by
  have hty : (∃ q, ty j = .object q) ∨ ∃ q, ty j = .array q := by
    have := hl.2.2.2.2
    cases hq : ty j <;> rw [hq] at this <;> simp [xm_tk] at this
    · exact Or.inl ⟨_, rfl⟩
    · exact Or.inr ⟨_, rfl⟩
  refine xs_putv hd hn hl (Or.inr hfin) hk (fun _ _ => ?_) (fun _ _ => ?_) (by rw [h1]) (by rw [h1]) (fun base b => ?_) (fun base j' t' hj => xm_val_u2r h1 j' t' hj) (fun k' hk' => ?_) k
  · rcases hty with ⟨q, hq⟩ | ⟨q, hq⟩ <;> rw [hq] <;> rfl
  · rcases hty with ⟨q, hq⟩ | ⟨q, hq⟩ <;> rw [hq] <;> rfl
  · rw [h1]; simp [xm_val, xm_u2, xm_r, va_rf]
  · rw [h1]; exact ⟨xm_u2_ne hk', rfl, rfl⟩
end XR_
