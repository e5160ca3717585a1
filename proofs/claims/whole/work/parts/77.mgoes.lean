/-! the reference: moves, steps, work -/
theorem rw1_hi {S : qSt} {i j : Nat} {P : Nat → List Nat} {v : Int32} (hP : st_ok P) (hR : RW1 S i P) (hj : 21 ≤ j) : RW1 (q_wI S 65 i j v) i P := by
  intro k hk
  have h6 := (st_row hP hk).1
  refine ⟨?_, fun q hq => ?_⟩
  · rw [q_I_wI, if_neg (by omega)]
    exact (hR k hk).1
  · rw [q_I_wI, if_neg (by omega)]
    exact (hR k hk).2 q hq
theorem sm_up (m : Nat → Nat) {f : Nat} (hf : f < 6) : fb_sm (fun x => if x = f then m f + 1 else m x) 6 = fb_sm m 6 + 1 := by
  have := fb_sm_upd m (m f + 1) (i := f) (n := 6) hf
  omega
abbrev Fdm (i : Nat) : Nat → Nat → Prop := fun f k => (f = 65 ∧ k = i) ∨ f = 61 ∨ f = 62
set_option maxHeartbeats 1000000 in
theorem c_mmoves (l : Launch) (S : qSt) {i a b c : Nat} {Y : YD} {V : PV} {cd : List Tok} (hY : y_ok Y) (hM : MY S Y) (hP : p_ok Y V.1) (hR : RV S i V) (ha : a < Y 1 0) (hb : b < Y 0 0) (hc : c < Y 0 0) (hw : lwf cd) (hL : MLW S cd) : q_Met q_mt l 4 k_X11_moves 1 [.inr (.inr (40, 0)), .inr (.inr (65, i)), .inl (nI a), .inl (nI b), .inl (nI c)] S (fun v S' => v = some (.inl (bI (stp Y cd 1 a b c V).isSome)) ∧ RV S' i ((stp Y cd 1 a b c V).getD V) ∧ fr (Fdm i) S S') := by
  have h6 := hY.2.1
  have h3 := hY.1
  refine q_meth zoX11_moves q_fos (Nat.le_of_ble_eq_true rfl) ?_
  intro AT step
  refine step 20 [(4, [true, true, true, true, true, true])] 0 _ _ _ ?_
  simp only [q_vcs, q_vcc, q_vl, q_vu, ↓reduceIte, Nat.reduceEqDiff, Bool.false_eq_true, q_isc, q_mk, q_msk, zbX11_moves, q_pad, q_ent, q_get, q_put, q_nl, q_w, List.cons_append, List.nil_append, q_aks, q_als, Nat.reduceAdd, Nat.reduceLeDiff, Nat.zero_le, true_and, and_true, Option.some.injEq, Sum.inl.injEq, Sum.inr.injEq, true_or, or_true, and_self, q_sw]
  refine q_u1 (by decide) (c_mfrontOf l S hP.1 hR.1 (j := b) (by omega)) ?_
  cases hh : (V.1 b).head? with
  | none =>
    refine ⟨fun _ => ?_, fun h => absurd rfl h⟩
    rw [stp_n hh]
    exact ⟨rfl, hR, fr.rf⟩
  | some f =>
    have hf := hd_lt (st_row hP.1 (k := b) (by omega)) f hh
    have hfm : f ∈ V.1 b := by
      cases hr : V.1 b with
      | nil => rw [hr] at hh; cases hh
      | cons x t => rw [hr] at hh; cases hh; exact List.mem_cons_self
    have hfY : f < Y 1 0 := hP.2.2.1 b f hfm
    rw [nI_eq (by omega) (by omega)]
    refine ⟨fun h => absurd h (i_ne1 hf), fun _ => ⟨fun h => ?_, fun hbc => ?_⟩⟩
    · rw [stp_r hh (Or.inl h)]
      exact ⟨rfl, hR, fr.rf⟩
    refine q_u1 (by decide) (c_mroomOf l S hY hM hP hR.1 (j := c) hc) ?_
    have e0 : q_I S 52 f (Int32.toNatClampNeg 0) = nI (lgt Y f) := by
      unfold lgt
      rw [if_pos hfY]
      exact (hM.2.2.2.2 f hfY).1
    have hk64 := kyt_lt hY a
    have e1 : q_I S 48 0 a = nI (kyt Y a) := by
      unfold kyt
      rw [if_pos ha]
      exact (hM.2.2.2.2 a ha).2.2.2
    rw [show oI (some f) = nI f from rfl, i_cl (by omega), e0, rmI_lt hY hP.1 (by omega) (by have := lgt_le hY f; omega), i_cl (by omega), e1]
    refine ⟨i_in (by omega) (by decide), i_in (by decide) (by decide), fun hrm => ?_, fun hrm => ⟨i_in (by omega) (by decide), ?_⟩⟩
    · rw [stp_r hh (Or.inr (Or.inr hrm))]
      exact ⟨rfl, hR, fr.rf⟩
    refine q_u1 (by decide) (c_mhas l S (n := kyt Y a) (k := f) (by omega) (by omega)) ?_
    rw [bI_0, nI_eq (by omega) (by omega)]
    refine ⟨fun hkb => ?_, fun hkb => ?_⟩
    rotate_left
    · rw [stp_r hh (Or.inr (Or.inl hkb))]
      exact ⟨rfl, hR, fr.rf⟩
    have hno : ¬ (b = c ∨ (kyt Y a).testBit f = false ∨ rmZ Y V.1 c < (lgt Y f : Int)) := fun q => by
      rcases q with q | q | q
      · exact hbc q
      · exact hkb q
      · exact hrm q
    have at4 : ∀ own : Int32, own = (if a = f then 1 else 0) → AT 4 [some (.inr (.inr (40, 0))), some (.inr (.inr (65, i))), some (.inl (nI a)), some (.inl (nI b)), some (.inl (nI c)), some (.inl (nI f))] [.inl own, .inl (nI f), .inr (.inr (65, i)), .inr (.inr (40, 0)), .inl (q_I S 65 i (Int32.toNatClampNeg 27)), .inl 27, .inr (.inr (65, i))] S := by
      intro own hown
      refine step 20 [] 4 _ _ _ ?_
      simp only [q_vcs, q_vcc, q_vl, q_vu, ↓reduceIte, Nat.reduceEqDiff, Bool.false_eq_true, q_isc, q_mk, q_msk, zbX11_moves, q_pad, q_ent, q_get, q_put, q_nl, q_w, List.cons_append, List.nil_append, q_aks, q_als, Nat.reduceAdd, Nat.reduceLeDiff, Nat.zero_le, true_and, and_true, Option.some.injEq, Sum.inl.injEq, Sum.inr.injEq, true_or, or_true, and_self, q_sw]
      rw [stp_d hh hno, ← hown]
      refine ⟨_, _, (by decide : 3 < 4), c_msecondsOf l S own hY hM hP hR hfY hw hL, fun v S1 h1 => ?_⟩
      obtain ⟨hv, h1⟩ := h1
      cases hv
      have hR1 : RV S1 i V := hR.fr h1 (by omega)
      have i27 : Int32.toNatClampNeg 27 = 27 := rfl
      have i28 : Int32.toNatClampNeg 28 = 28 := rfl
      have i21 : (21 : Int32) + nI f = nI (21 + f) := by rw [show (21 : Int32) = nI 21 from rfl, nI_add]
      rw [i27, i28, i21, i_cl (k := 21 + f) (by omega), i_0, i_cl (by omega), hR.2.2.1, nI_add]
      have s28 : q_I (q_wI S1 65 i 27 (nI (V.2.1 + secn (lvv (fcs Y V f own) cd)))) 65 i 28 = nI (fb_sm V.2.2 6) := by
        rw [q_I_wI, if_neg (by omega)]
        exact hR1.2.2.2
      rw [s28, nI_1]
      have s21 : q_I (q_wI (q_wI S1 65 i 27 (nI (V.2.1 + secn (lvv (fcs Y V f own) cd)))) 65 i 28 (nI (fb_sm V.2.2 6 + 1))) 65 i (21 + f) = nI (V.2.2 f) := by
        rw [q_I_wI, if_neg (by omega), q_I_wI, if_neg (by omega)]
        exact hR1.2.1 f (by omega)
      rw [s21, nI_1]
      obtain ⟨p1, p2, p3⟩ := p_mv hY hP (a := b) (b := c) (by omega) hc hh
      have hb3 : b < 3 := by omega
      have hne := head_ne hh
      have hlen : 0 < (V.1 b).length := by
        cases hr : V.1 b with
        | nil => exact absurd hr hne
        | cons _ _ => simp
      have hl6 := (st_row hP.1 hb3).1
      have hRA : RW1 (q_wI (q_wI (q_wI S1 65 i 27 (nI (V.2.1 + secn (lvv (fcs Y V f own) cd)))) 65 i 28 (nI (fb_sm V.2.2 6 + 1))) 65 i (21 + f) (nI (V.2.2 f + 1))) i V.1 := rw1_hi hP.1 (rw1_hi hP.1 (rw1_hi hP.1 hR1.1 (by decide)) (by decide)) (by omega)
      have e : nI (V.1 b).length - 1 = nI ((V.1 b).length - 1) := by
        have := i_m1 ((V.1 b).length - 1)
        rwa [Nat.sub_add_cancel hlen] at this
      rw [(hRA b hb3).1, e]
      have hRB := rw1_out hP.1 hRA hb3 hne
      have v29 : ∀ k, k < 29 → vp_in (nI k) 29 := fun k hk => i_in hk (by decide)
      refine ⟨v29 27 (by decide), v29 28 (by decide), v29 28 (by decide), v29 (21 + f) (by omega), v29 (21 + f) (by omega), v29 b (by omega), v29 b (by omega), ?_⟩
      refine ⟨_, _, (by decide : 0 < 4), c_mcomesTo l _ (c := f) p3.1 hRB (j := c) (by omega) p2, fun S5 h5 => ?_⟩
      obtain ⟨g1, g2, g3⟩ := h5
      refine ⟨rfl, ⟨g1, fun x hx => ?_, ?_, ?_⟩, (fr.wI (fr.wI (fr.wI (fr.wI (h1.mn fun f j h => Or.inr h) (Or.inl ⟨rfl, rfl⟩)) (Or.inl ⟨rfl, rfl⟩)) (Or.inl ⟨rfl, rfl⟩)) (Or.inl ⟨rfl, rfl⟩)).tr (g3.mn fun f j h => Or.inl h)⟩
      · rw [g2 _ (by omega), q_I_wI, if_neg (by omega), q_I_wI]
        by_cases ex : x = f
        · subst ex
          simp
        · rw [if_neg (by omega), q_I_wI, if_neg (by omega), q_I_wI, if_neg (by omega), hR1.2.1 x hx]
          simp [ex]
      · rw [g2 27 (by decide), q_I_wI, if_neg (by omega), q_I_wI, if_neg (by omega), q_I_wI, if_neg (by omega), q_I_wI, if_pos ⟨rfl, rfl, rfl⟩]
        rfl
      · rw [g2 28 (by decide), q_I_wI, if_neg (by omega), q_I_wI, if_neg (by omega), q_I_wI, if_pos ⟨rfl, rfl, rfl⟩]
        show nI (fb_sm V.2.2 6 + 1) = nI (fb_sm (fun x => if x = f then V.2.2 f + 1 else V.2.2 x) 6)
        rw [sm_up V.2.2 (by omega)]
    have v29 : vp_in 27 29 := i_in (k := 27) (by decide) (by decide)
    exact ⟨v29, fun h => at4 0 (by rw [if_neg h]), fun h => at4 1 (by rw [if_pos h])⟩
/-- a row of the steps -/
def SR (S : qSt) (s k a b c : Nat) : Prop := q_I S 64 s 0 = nI k ∧ (k ≤ 1 → q_I S 64 s 1 = nI a) ∧ (k ≤ 2 → q_I S 64 s 2 = nI b) ∧ (k = 1 → q_I S 64 s 3 = nI c)
theorem rv_in {S S' : qSt} {i c j : Nat} {V : PV} (hR : RV S i V) (h1 : RW1 S' i (sp V.1 j (c :: V.1 j))) (h2 : ∀ q, 21 ≤ q → q_I S' 65 i q = q_I S 65 i q) : RV S' i (sp V.1 j (c :: V.1 j), V.2.1, V.2.2) := by
  refine ⟨h1, fun x hx => ?_, ?_, ?_⟩
  · rw [h2 _ (by omega)]; exact hR.2.1 x hx
  · rw [h2 _ (by omega)]; exact hR.2.2.1
  · rw [h2 _ (by omega)]; exact hR.2.2.2
set_option maxHeartbeats 1000000 in
theorem c_mdoes (l : Launch) (S : qSt) {i s k a b c : Nat} {Y : YD} {V : PV} {cd : List Tok} (hY : y_ok Y) (hM : MY S Y) (hP : p_ok Y V.1) (hR : RV S i V) (hs : SR S s k a b c) (ho : sok Y k a b c) (hk : k ≤ 3) (hw : lwf cd) (hL : MLW S cd) : q_Met q_mt l 5 k_X11_does 1 [.inr (.inr (40, 0)), .inr (.inr (65, i)), .inr (.inr (64, s))] S (fun v S' => v = some (.inl (bI (stp Y cd k a b c V).isSome)) ∧ RV S' i ((stp Y cd k a b c V).getD V) ∧ fr (Fdm i) S S') := by
  have h6 := hY.2.1
  have h3 := hY.1
  obtain ⟨s0, s1, s2, s3⟩ := hs
  have k0 : Int32.toNatClampNeg 0 = 0 := rfl
  have k1 : Int32.toNatClampNeg 1 = 1 := rfl
  have k2 : Int32.toNatClampNeg 2 = 2 := rfl
  have k3 : Int32.toNatClampNeg 3 = 3 := rfl
  have v5 : ∀ k, k < 5 → vp_in (nI k) 5 := fun k hk => i_in hk (by decide)
  have hbI : ∀ v : Bool, bI v = 0 ∨ bI v = 1 := fun v => by cases v <;> decide
  refine q_meth zoX11_does q_fos (Nat.le_of_ble_eq_true rfl) ?_
  intro AT step
  refine step 20 [] 0 _ _ _ ?_
  simp only [q_vcs, q_vcc, q_vl, q_vu, ↓reduceIte, Nat.reduceEqDiff, Bool.false_eq_true, q_isc, q_mk, q_msk, zbX11_does, q_pad, q_ent, q_get, q_put, q_nl, q_w, List.cons_append, List.nil_append, q_aks, q_als, Nat.reduceAdd, Nat.reduceLeDiff, Nat.zero_le, true_and, and_true, Option.some.injEq, Sum.inl.injEq, Sum.inr.injEq, true_or, or_true, and_self, q_sw]
  rw [k0, k1, k2, k3, s0]
  rw [show (0 : Int32) = nI 0 from rfl, show (1 : Int32) = nI 1 from rfl, show (2 : Int32) = nI 2 from rfl, nI_eq (by omega) (by decide), nI_eq (by omega) (by decide), nI_eq (by omega) (by decide)]
  refine ⟨v5 2 (by decide), v5 0 (by decide), fun e => ?_, fun n0 => ⟨fun e => ?_, fun n1 => ⟨fun e => ?_, fun n2 => ?_⟩⟩⟩
  · subst e
    have haY := ho.1 (by decide)
    have hbY := ho.2.1 (by decide)
    rw [s1 (by decide), s2 (by decide)]
    refine ⟨v5 1 (by decide), q_u1 (by decide) (c_mlaneOf l S hY hM hP hR.1 (c := a) (by omega)) ?_⟩
    cases hl : lnof V.1 a with
    | some k =>
      have hk := (lnof_lt hl).1
      have hst : stp Y cd 0 a b c V = none := by
        show (if (lnof V.1 a).isSome ∨ rmZ Y V.1 b < lgt Y a then none else _) = _
        rw [if_pos (Or.inl (by rw [hl]; rfl))]
      rw [hst]
      refine ⟨fun _ => ⟨rfl, hR, fr.rf⟩, fun h => absurd h (i_ne1 (by omega))⟩
    | none =>
      refine ⟨fun h => absurd rfl h, fun _ => ?_⟩
      refine q_u1 (by decide) (c_mroomOf l S hY hM hP hR.1 (j := b) hbY) ?_
      have e0 : q_I S 52 a 0 = nI (lgt Y a) := by
        unfold lgt
        rw [if_pos haY]
        exact (hM.2.2.2.2 a haY).1
      have e1 : q_I S 64 s 1 = nI a := s1 (by decide)
      rw [e1, i_cl (k := a) (by omega), e0, rmI_le hY hP.1 (by omega) (by have := lgt_le hY a; omega)]
      refine ⟨v5 1 (by decide), i_in (by omega) (by decide), i_in (by decide) (by decide), fun hrm => ?_, fun hrm => ?_⟩
      · have hin := p_in hY hP haY hl hbY
        refine ⟨v5 1 (by decide), _, _, (by decide : 0 < 5), c_mcomesTo l S (c := a) hP.1 hR.1 (j := b) (by omega) hin.2, fun S1 h1 => ?_⟩
        have hst : stp Y cd 0 a b c V = some (sp V.1 b (a :: V.1 b), V.2.1, V.2.2) := by
          show (if (lnof V.1 a).isSome ∨ rmZ Y V.1 b < lgt Y a then none else _) = _
          rw [if_neg (fun q => by
            rcases q with q | q
            · rw [hl] at q; cases q
            · omega)]
        rw [hst]
        exact ⟨rfl, rv_in hR h1.1 h1.2.1, h1.2.2.mn fun f j h => Or.inl h⟩
      · have hst : stp Y cd 0 a b c V = none := by
          show (if (lnof V.1 a).isSome ∨ rmZ Y V.1 b < lgt Y a then none else _) = _
          rw [if_pos (Or.inr (by omega))]
        rw [hst]
        exact ⟨rfl, hR, fr.rf⟩
  · subst e
    rw [s1 (by decide), s2 (by decide), s3 rfl]
    refine ⟨v5 1 (by decide), v5 3 (by decide), _, _, (by decide : 4 < 5), c_mmoves l S hY hM hP hR (ho.1 (by decide)) (ho.2.1 (by decide)) (ho.2.2 rfl) hw hL, fun v S1 h1 => ?_⟩
    obtain ⟨hv, h1⟩ := h1
    cases hv
    exact ⟨hbI _, rfl, h1⟩
  · subst e
    have hbY := ho.2.1 (by decide)
    have hb3 : b < 3 := by omega
    have hl6 := (st_row hP.1 hb3).1
    rw [s2 (by decide), show nI 0 = (0 : Int32) from rfl, i_0, i_cl (by omega), (hR.1 b hb3).1]
    have hst : stp Y cd 2 a b c V = match (V.1 b).head? with | none => none | some _ => some (sp V.1 b (V.1 b).tail, V.2.1, V.2.2) := rfl
    rw [hst]
    refine ⟨i_in (by omega) (by decide), fun h => ?_, fun h => ?_⟩
    · have hne : V.1 b ≠ [] := fun q => by rw [q] at h; exact h rfl
      have hlen : 0 < (V.1 b).length := by
        cases hr : V.1 b with
        | nil => exact absurd hr hne
        | cons _ _ => simp
      have e : nI (V.1 b).length - nI 1 = nI ((V.1 b).length - 1) := by
        have := i_m1 ((V.1 b).length - 1)
        rwa [Nat.sub_add_cancel hlen] at this
      rw [e]
      refine ⟨i_in (by omega) (by decide), i_in (by omega) (by decide), ?_⟩
      have hRB := rw1_out hP.1 hR.1 hb3 hne
      cases hh : (V.1 b).head? with
      | none =>
        cases hr : V.1 b with
        | nil => exact absurd hr hne
        | cons _ _ => rw [hr] at hh; cases hh
      | some f =>
        refine ⟨rfl, ⟨hRB, fun x hx => ?_, ?_, ?_⟩, fr.wI fr.rf (Or.inl ⟨rfl, rfl⟩)⟩
        · rw [q_I_wI, if_neg (by omega)]; exact hR.2.1 x hx
        · rw [q_I_wI, if_neg (by omega)]; exact hR.2.2.1
        · rw [q_I_wI, if_neg (by omega)]; exact hR.2.2.2
    · have he : V.1 b = [] := by
        cases hr : V.1 b with
        | nil => rfl
        | cons x t => rw [hr] at h hl6; exact absurd h (nI_ne0 (by simp) (by omega))
      rw [he]
      exact ⟨rfl, hR, fr.rf⟩
  · have e : k = 3 := by omega
    subst e
    refine ⟨_, _, (by decide : 3 < 5), c_mswaps l S hY hM hP hR.1, fun v S1 h1 => ?_⟩
    obtain ⟨hv, g1, g2, g3⟩ := h1
    cases hv
    have hst : stp Y cd 3 a b c V = if es (cho Y V.1) = es V.1 then none else some (cho Y V.1, V.2.1, V.2.2) := rfl
    rw [hst]
    refine ⟨hbI _, ?_⟩
    have hrv : RV S1 i (cho Y V.1, V.2.1, V.2.2) := by
      refine ⟨g1, fun x hx => ?_, ?_, ?_⟩
      · rw [g2 _ (by omega)]; exact hR.2.1 x hx
      · rw [g2 _ (by omega)]; exact hR.2.2.1
      · rw [g2 _ (by omega)]; exact hR.2.2.2
    by_cases h : es (cho Y V.1) = es V.1
    · rw [if_pos h]
      simp only [h, ne_eq, not_true, decide_false]
      refine ⟨rfl, ⟨fun q hq => ?_, hrv.2⟩, g3.mn fun f j h => Or.inl h⟩
      have := es_row_inj (cho_ok hY hP).1 hP.1 h hq
      have hg := g1 q hq
      rw [this] at hg
      exact hg
    · rw [if_neg h]
      simp only [h, ne_eq, not_false_iff, decide_true]
      exact ⟨rfl, hrv, g3.mn fun f j h => Or.inl h⟩
