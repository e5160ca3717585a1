/-! Work: a step done -/
abbrev Fds (r i : Nat) : Nat → Nat → Prop := fun f j => (j = r ∧ (f = 26 ∨ f = 27)) ∨ (j = i ∧ (f = 14 ∨ f = 15))
theorem pr_st {S : qSt} {r : Nat} {V : PV} (h : PR S r V) (P : Nat → List Nat) : PR (q_wL S 26 r 0 (lN (es P))) r (P, V.2.1, V.2.2) := by
  refine ⟨?_, h.2.1, h.2.2⟩
  rw [q_L_wL, if_pos ⟨rfl, rfl, rfl⟩]
theorem c_park (l : Launch) (S : qSt) {r i y a b : Nat} {Y : YD} {V : PV} {cd : List Tok} (hY : y_ok Y) (hYR : YR S y Y) (hV : PR S r V) (hP : p_ok Y V.1) (ha : a < Y 1 0) (hb : b < Y 0 0) : q_Met q_mt l 3 k_X8_park 1 [.inl (nI a), .inl (nI b), .inr (.inr (3, y)), .inr (.inr (26, r))] S (fun v S' => v = some (.inl (bI (stp Y cd 0 a b 0 V).isSome)) ∧ PR S' r ((stp Y cd 0 a b 0 V).getD V) ∧ fr (Fds r i) S S') := by
  have h3 := hY.1
  have h6 := hY.2.1
  refine q_meth zoX8_park q_fos (Nat.le_of_ble_eq_true rfl) ?_
  intro AT step
  refine step 20 [] 0 _ _ _ ?_
  simp only [q_vcs, q_vcc, q_vl, q_vu, ↓reduceIte, Nat.reduceEqDiff, Bool.false_eq_true, q_isc, q_mk, q_msk, zbX8_park, q_pad, q_ent, q_get, q_put, q_nl, q_w, List.cons_append, List.nil_append, q_aks, q_als, Nat.reduceAdd, Nat.reduceLeDiff, Nat.zero_le, true_and, and_true, Option.some.injEq, Sum.inl.injEq, Sum.inr.injEq, true_or, or_true, and_self, q_sw]
  rw [hV.1]
  refine q_u1 (by decide) (c_laneOf l S hP.1 (c := a) (by omega)) ?_
  unfold stp
  cases hl : lnof V.1 a with
  | some k =>
    have hk := (lnof_lt hl).1
    refine ⟨fun _ => ?_, fun h => absurd h (i_ne1 (by omega))⟩
    simp
    exact ⟨rfl, hV, fr.rf⟩
  | none =>
    refine ⟨fun h => absurd rfl h, fun _ => ?_⟩
    rw [hV.1]
    refine q_u1 (by decide) (c_roomOf l S hY hYR hP.1 (k := b) (by omega)) ?_
    refine q_u1 (by decide) (c_lengthOf l S hY hYR (k := a) (by omega)) ?_
    rw [rmI_le hY hP.1 (by omega) (by have := lgt_le hY a; omega)]
    refine ⟨fun h => ?_, fun h => ?_⟩
    · have hin := p_in hY hP ha hl hb
      rw [hV.1]
      refine q_u2 (by decide) (c_driveIn l S hP.1 (k := b) (c := a) (by omega) (by omega) hin.2) ?_
      have hc : ¬ rmZ Y V.1 b < (lgt Y a : Int) := by omega
      simp [hc]
      exact ⟨rfl, pr_st hV _, fr.wL fr.rf (Or.inl ⟨rfl, Or.inl rfl⟩)⟩
    · have hc : rmZ Y V.1 b < (lgt Y a : Int) := by omega
      simp [hc]
      exact ⟨rfl, hV, fr.rf⟩
theorem c_driveOff (l : Launch) (S : qSt) {r i b : Nat} {Y : YD} {V : PV} {cd : List Tok} (hV : PR S r V) (hP : p_ok Y V.1) (hb : b < 3) : q_Met q_mt l 3 k_X8_driveOff 1 [.inl (nI b), .inr (.inr (26, r))] S (fun v S' => v = some (.inl (bI (stp Y cd 2 0 b 0 V).isSome)) ∧ PR S' r ((stp Y cd 2 0 b 0 V).getD V) ∧ fr (Fds r i) S S') := by
  refine q_meth zoX8_driveOff q_fos (Nat.le_of_ble_eq_true rfl) ?_
  intro AT step
  refine step 20 [] 0 _ _ _ ?_
  simp only [q_vcs, q_vcc, q_vl, q_vu, ↓reduceIte, Nat.reduceEqDiff, Bool.false_eq_true, q_isc, q_mk, q_msk, zbX8_driveOff, q_pad, q_ent, q_get, q_put, q_nl, q_w, List.cons_append, List.nil_append, q_aks, q_als, Nat.reduceAdd, Nat.reduceLeDiff, Nat.zero_le, true_and, and_true, Option.some.injEq, Sum.inl.injEq, Sum.inr.injEq, true_or, or_true, and_self, q_sw]
  rw [hV.1]
  refine q_u1 (by decide) (c_frontOf l S hP.1 hb) ?_
  unfold stp
  cases hh : (V.1 b).head? with
  | none =>
    refine ⟨fun h => absurd rfl h, fun _ => ?_⟩
    exact ⟨rfl, hV, fr.rf⟩
  | some f =>
    have hf := hd_lt (st_row hP.1 hb) f hh
    refine ⟨fun _ => ?_, fun h => absurd h (i_ne1 hf)⟩
    rw [hV.1]
    refine q_u2 (by decide) (c_driveOut l S hP.1 hb) ?_
    exact ⟨rfl, pr_st hV _, fr.wL fr.rf (Or.inl ⟨rfl, Or.inl rfl⟩)⟩
theorem stp_n {Y : YD} {cd : List Tok} {a b c : Nat} {V : PV} (h : (V.1 b).head? = none) : stp Y cd 1 a b c V = none := by
  show (match (V.1 b).head? with | none => none | some f => _) = _
  rw [h]
theorem stp_r {Y : YD} {cd : List Tok} {a b c f : Nat} {V : PV} (h : (V.1 b).head? = some f) (hc : b = c ∨ (kyt Y a).testBit f = false ∨ rmZ Y V.1 c < lgt Y f) : stp Y cd 1 a b c V = none := by
  show (match (V.1 b).head? with | none => none | some f => _) = _
  rw [h]
  exact if_pos hc
theorem stp_d {Y : YD} {cd : List Tok} {a b c f : Nat} {V : PV} (h : (V.1 b).head? = some f) (hc : ¬ (b = c ∨ (kyt Y a).testBit f = false ∨ rmZ Y V.1 c < lgt Y f)) : stp Y cd 1 a b c V = some (mvc V.1 b c f, V.2.1 + secn (lvv (fcs Y V f (if a = f then 1 else 0)) cd), fun x => if x = f then V.2.2 f + 1 else V.2.2 x) := by
  show (match (V.1 b).head? with | none => none | some f => _) = _
  rw [h]
  exact if_neg hc
set_option maxHeartbeats 1000000 in
theorem c_wmove (l : Launch) (S : qSt) {r i y j a b c : Nat} {Y : YD} {V : PV} {cd : List Tok} (hY : y_ok Y) (hYR : YR S y Y) (hV : PR S r V) (hP : p_ok Y V.1) (hw : lwf cd) (hL : LC S i (cd.map tkI)) (hj : j < 150) (e1 : wE S 1 j = nI a) (e2 : wE S 2 j = nI b) (e3 : wE S 3 j = nI c) (ha : a < Y 1 0) (hb : b < Y 0 0) (hc : c < Y 0 0) : q_Met q_mt l 4 k_X8_move 1 [.inr (.inr (18, 0)), .inl (nI j), .inr (.inr (3, y)), .inr (.inr (12, i)), .inr (.inr (26, r))] S (fun v S' => v = some (.inl (bI (stp Y cd 1 a b c V).isSome)) ∧ PR S' r ((stp Y cd 1 a b c V).getD V) ∧ fr (Fds r i) S S') := by
  have h3 := hY.1
  have h6 := hY.2.1
  have e1 : q_I S 20 0 j = nI a := e1
  have e2 : q_I S 21 0 j = nI b := e2
  have e3 : q_I S 22 0 j = nI c := e3
  refine q_meth zoX8_move q_fos (Nat.le_of_ble_eq_true rfl) ?_
  intro AT step
  refine step 20 [(4, [true, true, true, true, true, true, true, true, true])] 0 _ _ _ ?_
  simp only [q_vcs, q_vcc, q_vl, q_vu, ↓reduceIte, Nat.reduceEqDiff, Bool.false_eq_true, q_isc, q_mk, q_msk, zbX8_move, q_pad, q_ent, q_get, q_put, q_nl, q_w, List.cons_append, List.nil_append, q_aks, q_als, Nat.reduceAdd, Nat.reduceLeDiff, Nat.zero_le, true_and, and_true, Option.some.injEq, Sum.inl.injEq, Sum.inr.injEq, true_or, or_true, and_self, q_sw]
  rw [i_cl (by omega), e1, e2, e3, hV.1, nI_eq (by omega) (by omega)]
  refine ⟨i_in hj (by decide), i_in hj (by decide), i_in hj (by decide), ?_⟩
  refine q_u1 (by decide) (c_frontOf l S hP.1 (k := b) (by omega)) ?_
  cases hh : (V.1 b).head? with
  | none =>
    refine ⟨fun _ => ?_, fun h => absurd rfl h⟩
    rw [stp_n hh]
    exact ⟨rfl, hV, fr.rf⟩
  | some f =>
    have hf := hd_lt (st_row hP.1 (k := b) (by omega)) f hh
    have hfm : f ∈ V.1 b := by
      cases hr : V.1 b with
      | nil => rw [hr] at hh; cases hh
      | cons x t => rw [hr] at hh; cases hh; exact List.mem_cons_self
    have hfY : f < Y 1 0 := hP.2.2.1 b f hfm
    refine ⟨fun h => absurd h (i_ne1 hf), fun _ => ⟨fun h => ?_, fun hbc => ?_⟩⟩
    · rw [stp_r hh (Or.inl h)]
      exact ⟨rfl, hV, fr.rf⟩
    refine q_u1 (by decide) (c_keysOf l S hY hYR (k := a) (by omega)) ?_
    have hk64 := kyt_lt hY a
    rw [show oI (some f) = nI f from rfl, i_bit (by omega) (by omega), i_bit0]
    refine ⟨fun h => ?_, fun hkb => ?_⟩
    · rw [stp_r hh (Or.inr (Or.inl h))]
      exact ⟨rfl, hV, fr.rf⟩
    rw [hV.1]
    refine q_u1 (by decide) (c_roomOf l S hY hYR hP.1 (k := c) (by omega)) ?_
    refine q_u1 (by decide) (c_lengthOf l S hY hYR (k := f) (by omega)) ?_
    rw [rmI_le hY hP.1 (by omega) (by have := lgt_le hY f; omega), nI_eq (by omega) (by omega)]
    refine ⟨fun hrm => ?_, fun hrm => ?_⟩
    · have hno : ¬ (b = c ∨ (kyt Y a).testBit f = false ∨ rmZ Y V.1 c < (lgt Y f : Int)) := fun q => by
        rcases q with q | q | q
        · exact hbc q
        · exact hkb q
        · omega
      have at4 : ∀ own : Int32, own = (if a = f then 1 else 0) → AT 4 [some (.inr (.inr (18, 0))), some (.inl (nI j)), some (.inr (.inr (3, y))), some (.inr (.inr (12, i))), some (.inr (.inr (26, r))), some (.inl (nI a)), some (.inl (nI b)), some (.inl (nI c)), some (.inl (nI f))] [.inl own, .inl (nI f), .inr (.inr (26, r)), .inr (.inr (3, y)), .inr (.inr (12, i)), .inl (q_I S 26 r 1), .inr (.inr (26, r))] S := by
        intro own hown
        refine step 20 [] 4 _ _ _ ?_
        simp only [q_vcs, q_vcc, q_vl, q_vu, ↓reduceIte, Nat.reduceEqDiff, Bool.false_eq_true, q_isc, q_mk, q_msk, zbX8_move, q_pad, q_ent, q_get, q_put, q_nl, q_w, List.cons_append, List.nil_append, q_aks, q_als, Nat.reduceAdd, Nat.reduceLeDiff, Nat.zero_le, true_and, and_true, Option.some.injEq, Sum.inl.injEq, Sum.inr.injEq, true_or, or_true, and_self, q_sw]
        rw [stp_d hh hno, ← hown]
        refine ⟨_, _, (by decide : 3 < 4), c_secondsNow l S own hY hYR hV hP hfY hw hL, fun v S1 h1 => ?_⟩
        obtain ⟨hv, h1⟩ := h1
        cases hv
        have hV1 : PR S1 r V := hV.fr h1 (by omega) (by omega)
        rw [hV.2.1, nI_add]
        have hV2 : PR (q_wI S1 26 r 1 (nI (V.2.1 + secn (lvv (fcs Y V f own) cd)))) r (V.1, V.2.1 + secn (lvv (fcs Y V f own) cd), V.2.2) := by
          refine ⟨hV1.1, ?_, fun x hx => ?_⟩
          · rw [q_I_wI, if_pos ⟨rfl, rfl, rfl⟩]
          · rw [q_I_wI, if_neg (by omega)]
            exact hV1.2.2 x hx
        refine ⟨_, _, (by decide : 1 < 4), c_addMove l _ (c := f) hV2 (by omega), fun S3 h3' => ?_⟩
        subst h3'
        have hV3 : PR (q_wI (q_wI S1 26 r 1 (nI (V.2.1 + secn (lvv (fcs Y V f own) cd)))) 27 r f (nI (V.2.2 f + 1))) r (V.1, V.2.1 + secn (lvv (fcs Y V f own) cd), fun x => if x = f then V.2.2 f + 1 else V.2.2 x) := by
          refine ⟨hV2.1, ?_, fun x hx => ?_⟩
          · rw [q_I_wI, if_neg (by omega)]
            exact hV2.2.1
          · rw [q_I_wI]
            by_cases e : x = f
            · subst e
              simp
            · rw [if_neg (by omega)]
              dsimp only
              rw [if_neg e]
              exact hV2.2.2 x hx
        obtain ⟨p1, p2, p3⟩ := p_mv hY hP (a := b) (b := c) (by omega) hc hh
        rw [hV3.1]
        refine q_u2 (by decide) (c_driveOut l _ hP.1 (k := b) (by omega)) ?_
        refine q_u2 (by decide) (c_driveIn l _ p3.1 (k := c) (c := f) (by omega) (by omega) p2) ?_
        refine ⟨rfl, pr_st hV3 _, fr.wL (fr.wI (fr.wI (h1.mn fun f j h => Or.inr h) (Or.inl ⟨rfl, Or.inl rfl⟩)) (Or.inl ⟨rfl, Or.inr rfl⟩)) (Or.inl ⟨rfl, Or.inl rfl⟩)⟩
      refine ⟨fun h => at4 0 (by rw [if_neg h]), fun h => at4 1 (by rw [if_pos h])⟩
    · rw [stp_r hh (Or.inr (Or.inr (by omega)))]
      exact ⟨rfl, hV, fr.rf⟩
theorem c_doStep (l : Launch) (S : qSt) {r i y j k a b c : Nat} {Y : YD} {V : PV} {cd : List Tok} (hY : y_ok Y) (hO : YO S y Y) (hV : PR S r V) (hP : p_ok Y V.1) (hw : lwf cd) (hL : LC S i (cd.map tkI)) (hj : j < 150) (hk : k ≤ 3) (e0 : wE S 0 j = nI k) (e1 : wE S 1 j = nI a) (e2 : wE S 2 j = nI b) (e3 : wE S 3 j = nI c) (ho : sok Y k a b c) : q_Met q_mt l 5 k_X8_doStep 1 [.inr (.inr (18, 0)), .inl (nI j), .inr (.inr (3, y)), .inr (.inr (12, i)), .inr (.inr (26, r))] S (fun v S' => v = some (.inl (bI (stp Y cd k a b c V).isSome)) ∧ PR S' r ((stp Y cd k a b c V).getD V) ∧ fr (Fds r i) S S') := by
  have h3 := hY.1
  have f0 : q_I S 19 0 j = nI k := e0
  have f1 : q_I S 20 0 j = nI a := e1
  have f2 : q_I S 21 0 j = nI b := e2
  have hbI : ∀ v : Bool, bI v = 0 ∨ bI v = 1 := fun v => by cases v <;> decide
  refine q_meth zoX8_doStep q_fos (Nat.le_of_ble_eq_true rfl) ?_
  intro AT step
  refine step 20 [] 0 _ _ _ ?_
  simp only [q_vcs, q_vcc, q_vl, q_vu, ↓reduceIte, Nat.reduceEqDiff, Bool.false_eq_true, q_isc, q_mk, q_msk, zbX8_doStep, q_pad, q_ent, q_get, q_put, q_nl, q_w, List.cons_append, List.nil_append, q_aks, q_als, Nat.reduceAdd, Nat.reduceLeDiff, Nat.zero_le, true_and, and_true, Option.some.injEq, Sum.inl.injEq, Sum.inr.injEq, true_or, or_true, and_self, q_sw]
  rw [i_cl (by omega), f0, f1, f2, show (0 : Int32) = nI 0 from rfl, show (1 : Int32) = nI 1 from rfl, show (2 : Int32) = nI 2 from rfl, nI_eq (by omega) (by decide), nI_eq (by omega) (by decide), nI_eq (by omega) (by decide)]
  refine ⟨i_in hj (by decide), fun e => ?_, fun n0 => ⟨fun e => ?_, fun n1 => ⟨fun e => ?_, fun n2 => ?_⟩⟩⟩
  · subst e
    refine ⟨i_in hj (by decide), i_in hj (by decide), _, _, (by decide : 3 < 5), c_park l S (cd := cd) (i := i) hY hO.1 hV hP (ho.1 (by decide)) (ho.2.1 (by decide)), fun v S1 h1 => ?_⟩
    obtain ⟨hv, h1⟩ := h1
    cases hv
    exact ⟨hbI _, rfl, h1⟩
  · subst e
    refine ⟨_, _, (by decide : 4 < 5), c_wmove l S hY hO.1 hV hP hw hL hj e1 e2 e3 (ho.1 (by decide)) (ho.2.1 (by decide)) (ho.2.2 rfl), fun v S1 h1 => ?_⟩
    obtain ⟨hv, h1⟩ := h1
    cases hv
    exact ⟨hbI _, rfl, h1⟩
  · subst e
    have hb3 : b < 3 := by have := ho.2.1 (by decide); omega
    refine ⟨i_in hj (by decide), _, _, (by decide : 3 < 5), c_driveOff l S (Y := Y) (cd := cd) (i := i) hV hP hb3, fun v S1 h1 => ?_⟩
    obtain ⟨hv, h1⟩ := h1
    cases hv
    exact ⟨hbI _, rfl, h1⟩
  · have e : k = 3 := by omega
    subst e
    rw [hV.1]
    refine q_u2 (by decide) (c_comeHome l S hY hO hP) ?_
    refine ⟨_, _, (by decide : 1 < 5), c_standsAs l S hV hP.1 (cho_ok hY hP).1, fun v S1 h1 => ?_⟩
    obtain ⟨hv, h1⟩ := h1
    cases hv
    subst h1
    refine ⟨hbI _, ?_⟩
    have hst : stp Y cd 3 a b c V = if es (cho Y V.1) = es V.1 then none else some (cho Y V.1, V.2.1, V.2.2) := rfl
    rw [hst]
    by_cases h : es (cho Y V.1) = es V.1
    · rw [if_pos h]
      simp only [h, ne_eq, not_true, decide_false]
      refine ⟨rfl, ?_, fr.wL fr.rf (Or.inl ⟨rfl, Or.inl rfl⟩)⟩
      refine ⟨?_, hV.2.1, hV.2.2⟩
      rw [q_L_wL, if_pos ⟨rfl, rfl, rfl⟩]
      rfl
    · rw [if_neg h]
      simp only [h, ne_eq, not_false_iff, decide_true]
      exact ⟨rfl, pr_st hV _, fr.wL fr.rf (Or.inl ⟨rfl, Or.inl rfl⟩)⟩
