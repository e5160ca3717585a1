/-! places; cars fit -/
theorem c_monPlace (l : Launch) (S : qSt) {j : Nat} {Y : YD} {P : Nat → List Nat} (hY : y_ok Y) (hM : MY S Y) (hP : p_ok Y P) (hR : RW1 S 0 P) (hj : j < 3) (p : Int32) : q_Met q_mt l 4 k_X11_onPlace 1 [.inr (.inr (40, 0)), .inl (nI j), .inl p] S (fun r S' => r = some (.inl (oI (onp Y P j p.toInt))) ∧ S' = S) := by
  have h6 := hY.2.1
  have hnd := p_nd hP hj
  have t1 : q_I S 44 0 (Int32.toNatClampNeg 1) = nI (Y 1 0) := hM.2.1
  refine q_meth zoX11_onPlace q_fos (Nat.le_of_ble_eq_true rfl) ?_
  intro AT step
  have hL : ∀ (m c : Nat), c + m = Y 1 0 → (∀ d, d < c → onp Y P j p.toInt ≠ some d) → AT 1 [some (.inr (.inr (40, 0))), some (.inl (nI j)), some (.inl p), some (.inl (nI c))] [] S := by
    intro m
    induction m with
    | zero =>
      intro c hc hno
      refine step 40 [(1, [true, true, true, true])] 1 _ _ _ ?_
      simp only [q_vcs, q_vcc, q_vl, q_vu, ↓reduceIte, Nat.reduceEqDiff, Bool.false_eq_true, q_isc, q_mk, q_msk, zbX11_onPlace, q_pad, q_ent, q_get, q_put, q_nl, q_w, List.cons_append, List.nil_append, q_aks, q_als, Nat.reduceAdd, Nat.reduceLeDiff, Nat.zero_le, true_and, and_true, Option.some.injEq, Sum.inl.injEq, Sum.inr.injEq, true_or, or_true, and_self, q_sw]
      rw [t1, nI_leI (by omega) (by omega)]
      refine ⟨i_in (k := 1) (by decide) (by decide), fun _ => ?_, fun h => absurd (by omega) h⟩
      cases hp : onp Y P j p.toInt with
      | none => exact (by first | trivial | rfl | exact ⟨rfl, rfl⟩)
      | some d =>
        have := hP.2.2.1 j d ((onp_iff hnd).mp hp).1
        exact absurd hp (hno d (by omega))
    | succ m ih =>
      intro c hc hno
      refine step 40 [(1, [true, true, true, true])] 1 _ _ _ ?_
      simp only [q_vcs, q_vcc, q_vl, q_vu, ↓reduceIte, Nat.reduceEqDiff, Bool.false_eq_true, q_isc, q_mk, q_msk, zbX11_onPlace, q_pad, q_ent, q_get, q_put, q_nl, q_w, List.cons_append, List.nil_append, q_aks, q_als, Nat.reduceAdd, Nat.reduceLeDiff, Nat.zero_le, true_and, and_true, Option.some.injEq, Sum.inl.injEq, Sum.inr.injEq, true_or, or_true, and_self, q_sw]
      rw [t1, nI_leI (by omega) (by omega)]
      refine ⟨i_in (k := 1) (by decide) (by decide), fun h => absurd h (by omega), fun _ => ?_⟩
      refine q_u1 (by decide) (c_mlaneOf l S hY hM hP hR (c := c) (by omega)) ?_
      have hoi := oI_eq (a := lnof P c) (b := some j) (fun d hd => by have := (lnof_lt hd).1; omega) (fun d hd => by cases hd; omega)
      rw [show nI j = oI (some j) from rfl, hoi, nI_1]
      have next : onp Y P j p.toInt ≠ some c → AT 1 [some (.inr (.inr (40, 0))), some (.inl (oI (some j))), some (.inl p), some (.inl (nI (c + 1)))] [] S := fun hne => ih (c + 1) (by omega) (fun d hd => by
        by_cases e : d = c
        · rw [e]; exact hne
        · exact hno d (by omega))
      refine ⟨fun h => next (fun q => h ((lnof_iff hP hj).mpr ((onp_iff hnd).mp q).1)), fun h => ?_⟩
      have hcm := (lnof_iff hP hj).mp h
      refine q_u1 (by decide) (c_mfirstPlace l S hY hM hP hR h) ?_
      refine q_u1 (by decide) (c_mfirstPlace l S hY hM hP hR h) ?_
      have e0 : q_I S 52 c (Int32.toNatClampNeg 0) = nI (Y 4 c) := (hM.2.2.2.2 c (by omega)).1
      have hlg : lgt Y c = Y 4 c := by unfold lgt; rw [if_pos (by omega)]
      have h4 := hY.2.2.2.2 c (by omega)
      rw [i_cl (by omega), e0, nI_add]
      refine ⟨i_in (by omega) (by decide), i_in (by decide) (by decide), ?_⟩
      refine q_u1 (by decide) (c_min l S p _ _) ?_
      have hfp : fpo Y (P j) c ≤ 12 := by
        rw [fpo_take]
        have a := usd_le hY ((P j).reverse.take (rkw (P j) c))
        have b := (st_row hP.1 hj).1
        simp at a
        omega
      have hin : (nI (fpo Y (P j) c) ≤ p ∧ p ≤ nI (fpo Y (P j) c + Y 4 c) - 1) ↔ onp Y P j p.toInt = some c := by
        rw [onp_iff hnd, hlg]
        have e1 : nI (fpo Y (P j) c + Y 4 c) - 1 = nI (fpo Y (P j) c + Y 4 c - 1) := by
          have := i_m1 (fpo Y (P j) c + Y 4 c - 1)
          rwa [Nat.sub_add_cancel (by omega)] at this
        rw [e1, fa_le, fa_le, nI_toInt (by omega), nI_toInt (by omega)]
        constructor
        · rintro ⟨a, b⟩
          exact ⟨hcm, by omega, by omega⟩
        · rintro ⟨-, a, b⟩
          exact ⟨by omega, by omega⟩
      rw [bI_0]
      by_cases hq : onp Y P j p.toInt = some c
      · rw [decide_eq_true (hin.mpr hq), hq]
        exact ⟨fun h => (by cases h), fun _ => (by first | trivial | rfl | exact ⟨rfl, rfl⟩)⟩
      · rw [decide_eq_false (fun q => hq (hin.mp q))]
        exact ⟨fun _ => next hq, fun h => absurd rfl h⟩
  refine step 40 [(1, [true, true, true, true])] 0 _ _ _ ?_
  simp only [q_vcs, q_vcc, q_vl, q_vu, ↓reduceIte, Nat.reduceEqDiff, Bool.false_eq_true, q_isc, q_mk, q_msk, zbX11_onPlace, q_pad, q_ent, q_get, q_put, q_nl, q_w, List.cons_append, List.nil_append, q_aks, q_als, Nat.reduceAdd, Nat.reduceLeDiff, Nat.zero_le, true_and, and_true, Option.some.injEq, Sum.inl.injEq, Sum.inr.injEq, true_or, or_true, and_self, q_sw]
  exact hL (Y 1 0) 0 (by omega) (fun d hd => by omega)
/-- the cars of each lane fit into it -/
def fits9 (Y : YD) (P : Nat → List Nat) : Prop := ∀ k, k < 3 → usd Y (P k) ≤ plc Y k
theorem usd_mem {Y : YD} : ∀ {A t : List Nat} {c : Nat}, usd Y (A ++ c :: t) = usd Y A + lgt Y c + usd Y t := by
  intro A t c
  rw [usd_app]
  simp only [usd]
  omega
theorem fpl_fpo {Y : YD} (hY : y_ok Y) {P : Nat → List Nat} (hP : p_ok Y P) (hF : fits9 Y P) {c j : Nat} (hl : lnof P c = some j) : fpl Y P c = some (fpo Y (P j) c) := by
  obtain ⟨hj3, hcm⟩ := lnof_lt hl
  have hnd := p_nd hP hj3
  have hcY := hP.2.2.1 j c hcm
  have hlg : lgt Y c = Y 4 c := by unfold lgt; rw [if_pos hcY]
  have h4 := hY.2.2.2.2 c hcY
  obtain ⟨t, ht⟩ := ahd_split hl
  have hnd2 := hnd
  rw [ht] at hnd2
  have e1 := (rkw_split hnd2).2
  have efp : fpo Y (P j) c = usd Y t := by
    unfold fpo
    rw [ht, e1, usd_rev]
  have hfit := hF j hj3
  have hus : usd Y (P j) = usd Y (ahd P c) + lgt Y c + usd Y t := by
    have := congrArg (usd Y) ht
    rw [usd_mem] at this
    exact this
  unfold fpl
  rw [hl]
  dsimp only
  rw [List.find?_eq_some_iff_getElem]
  refine ⟨?_, fpo Y (P j) c, by simp; omega, by simp, fun i hi => ?_⟩
  · rw [decide_eq_true_eq, onp_iff hnd]
    exact ⟨hcm, by omega, by omega⟩
  · simp only [List.getElem_range, Bool.not_eq_true', decide_eq_false_iff_not]
    rw [onp_iff hnd]
    rintro ⟨-, a, b⟩
    omega
theorem fits_out {Y : YD} {P : Nat → List Nat} (h : fits9 Y P) (k : Nat) : fits9 Y (sp P k (P k).tail) := fun j hj => by
  unfold sp
  split
  · rename_i e
    have := h j hj
    rw [e] at this ⊢
    cases hr : P k with
    | nil => simp [usd]
    | cons c r => rw [hr] at this; simp only [usd, List.tail_cons] at this ⊢; omega
  · exact h j hj
theorem fits_in {Y : YD} {P : Nat → List Nat} (h : fits9 Y P) {k c : Nat} (hr : (lgt Y c : Int) ≤ rmZ Y P k) : fits9 Y (sp P k (c :: P k)) := fun j hj => by
  unfold sp
  split
  · rename_i e
    rw [e]
    unfold rmZ at hr
    simp only [usd]
    omega
  · exact h j hj
theorem fits_mv {Y : YD} {P : Nat → List Nat} (h : fits9 Y P) {a b f : Nat} (hab : a ≠ b) (hr : (lgt Y f : Int) ≤ rmZ Y P b) : fits9 Y (mvc P a b f) := by
  unfold mvc
  refine fits_in (fits_out h a) ?_
  unfold rmZ at *
  rw [show sp P a (P a).tail b = P b by unfold sp; rw [if_neg (fun q => hab q.symm)]]
  exact hr
theorem fits_nil (Y : YD) : fits9 Y nil3 := fun k _ => by simp [nil3, usd]
theorem fits_chome {Y : YD} : ∀ {cs : List Nat} {P : Nat → List Nat}, fits9 Y P → fits9 Y (chome Y cs P)
  | [], P, h => h
  | c :: cs, P, h => by
    unfold chome
    cases hl : lnof P c with
    | some k => exact fits_chome h
    | none =>
      dsimp only
      cases hw : wid Y P (Y 0 0) with
      | none => exact fits_chome h
      | some k =>
        dsimp only
        split
        · rename_i hr; exact fits_chome (fits_in h hr)
        · exact fits_chome h
theorem fits_cho {Y : YD} {P : Nat → List Nat} (h : fits9 Y P) : fits9 Y (cho Y P) := fits_chome h
theorem fits_stp {Y : YD} {cd : List Tok} {k a b c : Nat} {V V' : PV} (h : fits9 Y V.1) (hs : stp Y cd k a b c V = some V') : fits9 Y V'.1 := by
  match k, hs with
  | 0, hs =>
    have hs : (if (lnof V.1 a).isSome ∨ rmZ Y V.1 b < lgt Y a then none else some (sp V.1 b (a :: V.1 b), V.2.1, V.2.2)) = some V' := hs
    split at hs
    · cases hs
    · rename_i hn
      cases hs
      exact fits_in h (by omega)
  | 1, hs =>
    cases hh : (V.1 b).head? with
    | none => rw [stp_n hh] at hs; cases hs
    | some f =>
      by_cases hc : b = c ∨ (kyt Y a).testBit f = false ∨ rmZ Y V.1 c < lgt Y f
      · rw [stp_r hh hc] at hs; cases hs
      · rw [stp_d hh hc] at hs
        cases hs
        exact fits_mv h (fun q => hc (Or.inl q)) (by omega)
  | 2, hs =>
    have hs : (match (V.1 b).head? with | none => none | some _ => some (sp V.1 b (V.1 b).tail, V.2.1, V.2.2)) = some V' := hs
    split at hs
    · cases hs
    · cases hs
      exact fits_out h b
  | k + 3, hs =>
    have hs : (if es (cho Y V.1) = es V.1 then none else some (cho Y V.1, V.2.1, V.2.2)) = some V' := hs
    split at hs
    · cases hs
    · cases hs
      exact fits_cho h
