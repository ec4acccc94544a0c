theorem ev_isSame (m : Nat) (u : xm_Y) : fn_X4_isSame m u = some (if gt_ u 125 = gt_ u 126 then 1 else 0, u) := by
  have i0 : xm_in (0 : Int32) 3 := by decide
  have i1 : xm_in (1 : Int32) 3 := by decide
  have i2 : xm_in (2 : Int32) 3 := by decide
  rw [fn_X4_isSame]
  simp only [ck_t i0, ck_t i1, ck_t i2]
  have e0 : (0 : Int32).toNatClampNeg = 0 := rfl
  have e1 : (1 : Int32).toNatClampNeg = 1 := rfl
  have e2 : (2 : Int32).toNatClampNeg = 2 := rfl
  rw [e0, e1, e2]
  by_cases h0 : u.2 125 0 = u.2 126 0
  · by_cases h1 : u.2 125 1 = u.2 126 1
    · by_cases h2 : u.2 125 2 = u.2 126 2
      · have : gt_ u 125 = gt_ u 126 := by unfold gt_; rw [h0, h1, h2]
        rw [if_pos h0, if_pos h1, if_pos h2, if_pos this]; rfl
      · have : ¬ gt_ u 125 = gt_ u 126 := fun q => h2 (congrArg (fun x => x.2.2) q)
        rw [if_pos h0, if_pos h1, if_neg h2, if_neg this]; rfl
    · have : ¬ gt_ u 125 = gt_ u 126 := fun q => h1 (congrArg (fun x => x.2.1) q)
      rw [if_pos h0, if_neg h1, if_neg this]; rfl
  · have : ¬ gt_ u 125 = gt_ u 126 := fun q => h0 (congrArg (fun x => x.1) q)
    rw [if_neg h0, if_neg this]; rfl
theorem ev_copy (m p q : Nat) (u : xm_Y) : fn_X4_copy m p q u = some ((), cp_J u p q 0 0 3) := by
  rw [fn_X4_copy, ck_t (by decide)]
  rfl
theorem gt_cp {u : xm_Y} {p q : Nat} : gt_ (cp_J u p q 0 0 3) q = gt_ u p := by
  unfold gt_ cp_J xm_u1
  simp only [if_pos]
  rfl
theorem gt_cpn {u : xm_Y} {p q r : Nat} (h : r ≠ q) : gt_ (cp_J u p q 0 0 3) r = gt_ u r := by
  unfold gt_ cp_J xm_u1
  simp only [if_neg h]
theorem len_lp {m N n nb : Nat} {gc : Nat → Nat} {c d : xm_Y} {X : T_} (hm : 100000 ≤ m) (hN : N ≤ 10000) (h1 : iv_1 c d n nb) (h2 : iv_2 c d n nb gc) (hok : ∀ k y, ob_ (sd_ d n nb gc) X k = some y → ok_ n y) : ∀ (r t f M : Nat) (u : xm_Y), t + r = 2 * N + 1 → r + 1 ≤ f → 1 ≤ t → M < t → M ≤ N → (N < t → M = N) → fx_ (fun q => q = 125 ∨ q = 126) c u → ob_ (sd_ d n nb gc) X (t - 1) = some (gt_ u 125) → ob_ (sd_ d n nb gc) X M = some (gt_ u 126) → (∀ s, M < s → s < t → ob_ (sd_ d n nb gc) X s ≠ ob_ (sd_ d n nb gc) X M) → ∃ (z : Int32) (u' : xm_Y), (lp_X4_lengthWithin_22 m (nI N) f (nI M) (nI t) u).bind (Sum.elim (fun r => some r) (fun q => some ((0 : Int32), q.2.2))) = some (z, u') ∧ fx_ (fun q => q = 125 ∨ q = 126) c u' ∧ lw_r (sd_ d n nb gc) X N z
  | 0, t, f, M, u, ht, hf, t1, hMt, hMN, hMt2, fc, ofar, onear, hne => by
    obtain ⟨f', rfl⟩ : ∃ f', f = f' + 1 := ⟨f - 1, by omega⟩
    obtain rfl : M = N := hMt2 (by omega)
    refine ⟨0, u, ?_, fc, Or.inr (Or.inr (Or.inr ⟨rfl, ?_, fun s s1 s2 => hne s s1 (by omega)⟩))⟩
    · rw [lp_X4_lengthWithin_22, show (2 : Int32) * nI M = nI (2 * M) from nI_mu 2 M, if_pos ((nIlt (by omega) (by omega)).mpr (by omega))]; rfl
    · rw [show 2 * M = t - 1 by omega, ofar]; exact fun z => by cases z
  | r + 1, t, f, M, u, ht, hf, t1, hMt, hMN, hMt2, fc, ofar, onear, hne => by
    obtain ⟨f', rfl⟩ : ∃ f', f = f' + 1 := ⟨f - 1, by omega⟩
    obtain ⟨a1, a2, a3, a4, a5, a6, a7⟩ := id h1
    have sc := ev_step (m := m) (by omega) 125 nb gc u a7 (by rw [fc.1]; exact a5) (fun b hb => by rw [fc.1]; exact ⟨(h2 b hb).1, (h2 b hb).2.2.1⟩)
    rw [sc_1 fc.1, sc_sd h2 (hok _ _ ofar)] at sc
    rw [lp_X4_lengthWithin_22, show (2 : Int32) * nI N = nI (2 * N) from nI_mu 2 N, if_neg (fun q => absurd ((nIlt (by omega) (by omega)).mp q) (by omega)), sc]
    simp only [Option.bind_some, xm_let]
    cases hs : sd_ d n nb gc (gt_ u 125) with
    | none =>
      exact ⟨0, u, rfl, fc, Or.inr (Or.inr (Or.inl ⟨rfl, t - 1, _, ofar, Or.inl hs⟩))⟩
    | some o =>
      cases o with
      | none =>
        by_cases htN : N < t
        · refine ⟨0, u, ?_, fc, Or.inr (Or.inr (Or.inl ⟨rfl, t - 1, _, ofar, Or.inr ⟨hs, by omega⟩⟩))⟩
          show Option.bind (if nI N < nI t then _ else _) _ = _
          rw [if_pos ((nIlt (by omega) (by omega)).mpr htN)]; rfl
        · refine ⟨-4, u, ?_, fc, Or.inr (Or.inl ⟨t - 1, _, by omega, ofar, hs, rfl⟩)⟩
          show Option.bind (if nI N < nI t then _ else _) _ = _
          rw [if_neg (fun q => htN ((nIlt (by omega) (by omega)).mp q))]; rfl
      | some y =>
        have obt : ob_ (sd_ d n nb gc) X t = some y := by
          rw [show t = t - 1 + 1 by omega]
          show nx_ _ (ob_ _ X (t - 1)) = _
          rw [ofar]
          show (match sd_ d n nb gc (gt_ u 125) with | some (some t) => some t | _ => none) = some y
          rw [hs]
        have fcp : fx_ (fun q => q = 125 ∨ q = 126) c (pt_ u 125 y) := fc.tr (pt_fx _ u 125 y (Or.inl rfl))
        have gp := gt_pt u 125 y
        have gn : gt_ (pt_ u 125 y) 126 = gt_ u 126 := by
          unfold pt_
          rw [gt_ne (by decide), gt_ne (by decide), gt_ne (by decide)]
        show ∃ z u', Option.bind (Option.bind (fn_X4_isSame m (pt_ u 125 y)) _) _ = some (z, u') ∧ _
        rw [ev_isSame]
        simp only [Option.bind_some]
        rw [gp, gn]
        by_cases same : y = gt_ u 126
        · refine ⟨nI (t - M), pt_ u 125 y, ?_, fcp, Or.inl ⟨M, t - M, by omega, by omega, ?_, ?_, ?_, rfl⟩⟩
          · rw [if_pos same, if_neg (by decide), nI_sb (by omega) (by omega)]; rfl
          · rw [show M + (t - M) = t by omega, obt, onear, same]
          · rw [onear]; exact fun z => by cases z
          · intro s s1 s2
            exact hne (M + s) (by omega) (by omega)
        · rw [if_neg same, if_pos rfl]
          have hne' : ∀ s, M < s → s < t + 1 → ob_ (sd_ d n nb gc) X s ≠ ob_ (sd_ d n nb gc) X M := fun s s1 s2 => by
            by_cases q : s = t
            · rw [q, obt, onear]; exact fun z => same (Option.some.inj z)
            · exact hne s s1 (by omega)
          have keepM : (N < t + 1 → M = N) → ∃ (z : Int32) (u' : xm_Y), (lp_X4_lengthWithin_22 m (nI N) f' (nI M) (nI (t + 1)) (pt_ u 125 y)).bind (Sum.elim (fun r => some r) (fun q => some ((0 : Int32), q.2.2))) = some (z, u') ∧ fx_ (fun q => q = 125 ∨ q = 126) c u' ∧ lw_r (sd_ d n nb gc) X N z := fun hq =>
            len_lp hm hN h1 h2 hok r (t + 1) f' M (pt_ u 125 y) (by omega) (by omega) (by omega) (by omega) hMN hq fcp (by rw [show t + 1 - 1 = t by omega, obt, gp]) (by rw [onear, gn]) hne'
          have setM : t ≤ N → ∃ (z : Int32) (u' : xm_Y), (lp_X4_lengthWithin_22 m (nI N) f' (nI t) (nI (t + 1)) (cp_J (pt_ u 125 y) 125 126 0 0 3)).bind (Sum.elim (fun r => some r) (fun q => some ((0 : Int32), q.2.2))) = some (z, u') ∧ fx_ (fun q => q = 125 ∨ q = 126) c u' ∧ lw_r (sd_ d n nb gc) X N z := fun hq =>
            len_lp hm hN h1 h2 hok r (t + 1) f' t (cp_J (pt_ u 125 y) 125 126 0 0 3) (by omega) (by omega) (by omega) (by omega) hq (by omega) (fcp.cp (Or.inr rfl)) (by rw [show t + 1 - 1 = t by omega, obt, gt_cpn (by decide), gp]) (by rw [obt, gt_cp, gp]) (fun s s1 s2 => absurd s2 (by omega))
          rw [← nI_succ, ev_copy]
          simp only [Option.bind_some]
          by_cases tn : t = N
          · subst tn
            rw [if_pos rfl]
            exact setM (by omega)
          · rw [if_neg (fun q => tn (nIinj (by omega) (by omega) q))]
            by_cases tN : N ≤ t
            · rw [if_pos ((nIle (by omega) (by omega)).mpr tN)]
              exact keepM (fun _ => hMt2 (by omega))
            · rw [if_neg (fun q => tN ((nIle (by omega) (by omega)).mp q))]
              by_cases pw : nI t &&& (nI t - (1 : Int32)) = 0
              · rw [if_pos pw]
                exact setM (by omega)
              · rw [if_neg pw]
                exact keepM (fun q => absurd q (by omega))
theorem inf_st {S : T_ → Option (Option T_)} {X : T_} (inf : ∀ q, ob_ S X q ≠ none) {k : Nat} {y : T_} (h : ob_ S X k = some y) : ∃ t, S y = some (some t) ∧ ob_ S X (k + 1) = some t := by
  have a := inf (k + 1)
  have e : ob_ S X (k + 1) = nx_ S (some y) := by
    show nx_ S (ob_ S X k) = _
    rw [h]
  cases hs : S y with
  | none =>
    refine absurd ?_ a
    rw [e]
    show (match S y with | some (some t) => some t | _ => none) = none
    rw [hs]
  | some o =>
    cases o with
    | none =>
      refine absurd ?_ a
      rw [e]
      show (match S y with | some (some t) => some t | _ => none) = none
      rw [hs]
    | some t =>
      refine ⟨t, rfl, ?_⟩
      rw [e]
      show (match S y with | some (some t) => some t | _ => none) = some t
      rw [hs]
theorem lead1_lp {m n nb l : Nat} {gc : Nat → Nat} {c d : xm_Y} {X : T_} (hm : 100000 ≤ m) (hl : l ≤ 10000) (h1 : iv_1 c d n nb) (h2 : iv_2 c d n nb gc) (hok : ∀ k y, ob_ (sd_ d n nb gc) X k = some y → ok_ n y) (inf : ∀ q, ob_ (sd_ d n nb gc) X q ≠ none) : ∀ (r t f : Nat) (u : xm_Y), t + r = l → r + 1 ≤ f → fx_ (fun q => q = 125 ∨ q = 126) c u → ob_ (sd_ d n nb gc) X t = some (gt_ u 125) → ∃ (z : Int32) (u' : xm_Y), lp_X4_leadOf_19 m (nI l) f (nI t) u = some (z, u') ∧ fx_ (fun q => q = 125 ∨ q = 126) c u' ∧ ob_ (sd_ d n nb gc) X l = some (gt_ u' 125) ∧ gt_ u' 126 = gt_ u 126
  | 0, t, f, u, ht, hf, fc, ofar => by
    obtain ⟨f', rfl⟩ : ∃ f', f = f' + 1 := ⟨f - 1, by omega⟩
    obtain rfl : t = l := by omega
    refine ⟨nI t, u, ?_, fc, ofar, rfl⟩
    rw [lp_X4_leadOf_19, if_pos ((nIle (by omega) (by omega)).mpr (by omega))]
  | r + 1, t, f, u, ht, hf, fc, ofar => by
    obtain ⟨f', rfl⟩ : ∃ f', f = f' + 1 := ⟨f - 1, by omega⟩
    obtain ⟨a1, a2, a3, a4, a5, a6, a7⟩ := id h1
    have sc := ev_step (m := m) (by omega) 125 nb gc u a7 (by rw [fc.1]; exact a5) (fun b hb => by rw [fc.1]; exact ⟨(h2 b hb).1, (h2 b hb).2.2.1⟩)
    rw [sc_1 fc.1, sc_sd h2 (hok _ _ ofar)] at sc
    obtain ⟨y, y1, y2⟩ := inf_st inf ofar
    rw [y1] at sc
    have gn : gt_ (pt_ u 125 y) 126 = gt_ u 126 := by
      unfold pt_
      rw [gt_ne (by decide), gt_ne (by decide), gt_ne (by decide)]
    obtain ⟨z, u', p1, p2, p3, p4⟩ := lead1_lp hm hl h1 h2 hok inf r (t + 1) f' (pt_ u 125 y) (by omega) (by omega) (fc.tr (pt_fx _ u 125 y (Or.inl rfl))) (by rw [gt_pt]; exact y2)
    refine ⟨z, u', ?_, p2, p3, p4.trans gn⟩
    rw [lp_X4_leadOf_19, if_neg (fun q => absurd ((nIle (by omega) (by omega)).mp q) (by omega)), sc, ← p1, nI_succ]
    rfl
theorem lead2_lp {m n nb l N : Nat} {gc : Nat → Nat} {c d : xm_Y} {X : T_} (hm : 100000 ≤ m) (hl : l ≤ N) (hN : N ≤ 10000) (h1 : iv_1 c d n nb) (h2 : iv_2 c d n nb gc) (hok : ∀ k y, ob_ (sd_ d n nb gc) X k = some y → ok_ n y) (inf : ∀ q, ob_ (sd_ d n nb gc) X q ≠ none) : ∀ (r t f : Nat) (u : xm_Y), t + r = N - l + 1 → r + 1 ≤ f → fx_ (fun q => q = 125 ∨ q = 126) c u → ob_ (sd_ d n nb gc) X (t + l) = some (gt_ u 125) → ob_ (sd_ d n nb gc) X t = some (gt_ u 126) → (∀ s, s < t → ob_ (sd_ d n nb gc) X (s + l) ≠ ob_ (sd_ d n nb gc) X s) → ∃ (z : Int32) (u' : xm_Y), (lp_X4_leadOf_43 m (nI (N - l)) f (nI t) u).bind (Sum.elim (fun r => some r) (fun q => some ((-1 : Int32), q.2))) = some (z, u') ∧ fx_ (fun q => q = 125 ∨ q = 126) c u' ∧ ld_r (sd_ d n nb gc) X N l z
  | 0, t, f, u, ht, hf, fc, ofar, onear, hs => by
    obtain ⟨f', rfl⟩ : ∃ f', f = f' + 1 := ⟨f - 1, by omega⟩
    refine ⟨-1, u, ?_, fc, Or.inr ⟨fun s hs' => hs s (by omega), rfl⟩⟩
    rw [lp_X4_leadOf_43, if_pos ((nIlt (by omega) (by omega)).mpr (by omega))]; rfl
  | r + 1, t, f, u, ht, hf, fc, ofar, onear, hs => by
    obtain ⟨f', rfl⟩ : ∃ f', f = f' + 1 := ⟨f - 1, by omega⟩
    obtain ⟨a1, a2, a3, a4, a5, a6, a7⟩ := id h1
    rw [lp_X4_leadOf_43, if_neg (fun q => absurd ((nIlt (by omega) (by omega)).mp q) (by omega)), ev_isSame]
    simp only [Option.bind_some, xm_let]
    by_cases same : gt_ u 125 = gt_ u 126
    · rw [if_pos same, if_neg (by decide)]
      refine ⟨nI t, u, rfl, fc, Or.inl ⟨t, by omega, by rw [ofar, onear, same], hs, rfl⟩⟩
    · rw [if_neg same, if_pos rfl]
      have sc := ev_step (m := m) (by omega) 125 nb gc u a7 (by rw [fc.1]; exact a5) (fun b hb => by rw [fc.1]; exact ⟨(h2 b hb).1, (h2 b hb).2.2.1⟩)
      rw [sc_1 fc.1, sc_sd h2 (hok _ _ ofar)] at sc
      obtain ⟨y, y1, y2⟩ := inf_st inf ofar
      rw [y1] at sc
      have gn : gt_ (pt_ u 125 y) 126 = gt_ u 126 := by
        unfold pt_
        rw [gt_ne (by decide), gt_ne (by decide), gt_ne (by decide)]
      have fc2 : fx_ (fun q => q = 125 ∨ q = 126) c (pt_ u 125 y) := fc.tr (pt_fx _ u 125 y (Or.inl rfl))
      have sc2 := ev_step (m := m) (by omega) 126 nb gc (pt_ u 125 y) a7 (by rw [fc2.1]; exact a5) (fun b hb => by rw [fc2.1]; exact ⟨(h2 b hb).1, (h2 b hb).2.2.1⟩)
      rw [sc_1 fc2.1, gn, sc_sd h2 (hok _ _ onear)] at sc2
      obtain ⟨w, w1, w2⟩ := inf_st inf onear
      rw [w1] at sc2
      have gn2 : gt_ (pt_ (pt_ u 125 y) 126 w) 125 = y := by
        have : gt_ (pt_ (pt_ u 125 y) 126 w) 125 = gt_ (pt_ u 125 y) 125 := by
          conv => lhs; unfold pt_
          rw [gt_ne (by decide), gt_ne (by decide), gt_ne (by decide)]
          rfl
        rw [this, gt_pt]
      obtain ⟨z, u', p1, p2, p3⟩ := lead2_lp hm hl hN h1 h2 hok inf r (t + 1) f' (pt_ (pt_ u 125 y) 126 w) (by omega) (by omega) (fc2.tr (pt_fx _ _ 126 w (Or.inr rfl))) (by rw [gn2, ← y2]; congr 1; omega) (by rw [gt_pt]; exact w2) (fun s hs' => by
        by_cases q : s = t
        · rw [q, ofar, onear]; exact fun z => same (Option.some.inj z)
        · exact hs s (by omega))
      refine ⟨z, u', ?_, p2, p3⟩
      rw [sc]
      show Option.bind (Option.bind (fn_X7_step m 126 (pt_ u 125 y)) _) _ = _
      rw [sc2, ← p1, nI_succ]
      rfl
