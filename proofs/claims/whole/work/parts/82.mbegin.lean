/-! the reference: rows laid, a yard begun anew -/
theorem c_mlays49 (l : Launch) (S : qSt) {m : Nat} (hm : m ≤ 6) : q_Met q_mt l 0 k_X11_lays 0 [.inr (.inr (49, 0)), .inr (.inr (51, 0)), .inl (nI m)] S (fun _ S' => (∀ k, k < m → ∀ j, j < 3 → q_I S' 52 k j = q_I S 50 k j) ∧ fr (fun f _ => f = 52) S S') := by
  refine q_meth zoX11_lays q_fos (Nat.le_of_ble_eq_true rfl) ?_
  intro AT step
  have hL : ∀ (r k : Nat) (S1 : qSt), k + r = m → (∀ i, i < k → ∀ j, j < 3 → q_I S1 52 i j = q_I S 50 i j) → fr (fun f _ => f = 52) S S1 → AT 1 [some (.inr (.inr (49, 0))), some (.inr (.inr (51, 0))), some (.inl (nI m)), some (.inl (nI k)), none] [] S1 := by
    intro r
    induction r with
    | zero =>
      intro k S1 hk h1 h2
      refine step 40 [(1, [true, true, true, true, false]), (2, [true, true, true, true, true])] 1 _ _ _ ?_
      simp only [q_vcs, q_vcc, q_vl, q_vu, ↓reduceIte, Nat.reduceEqDiff, Bool.false_eq_true, q_isc, q_mk, q_msk, zbX11_lays, q_pad, q_ent, q_get, q_put, q_nl, q_w, List.cons_append, List.nil_append, q_aks, q_als, Nat.reduceAdd, Nat.reduceLeDiff, Nat.zero_le, true_and, and_true, Option.some.injEq, Sum.inl.injEq, Sum.inr.injEq, true_or, or_true, and_self, q_sw]
      rw [nI_leI (by omega) (by omega)]
      refine ⟨fun _ => ⟨fun i hi => h1 i (by omega), h2⟩, fun h => absurd (by omega) h⟩
    | succ r ih =>
      intro k S1 hk h1 h2
      have inner : ∀ (r2 j : Nat) (S2 : qSt), j + r2 = 3 → (∀ i, i < k → ∀ j, j < 3 → q_I S2 52 i j = q_I S 50 i j) → (∀ q, q < j → q_I S2 52 k q = q_I S 50 k q) → fr (fun f _ => f = 52) S S2 → AT 2 [some (.inr (.inr (49, 0))), some (.inr (.inr (51, 0))), some (.inl (nI m)), some (.inl (nI k)), some (.inl (nI j))] [] S2 := by
        intro r2
        induction r2 with
        | zero =>
          intro j S2 hj g1 g2 g3
          refine step 40 [(1, [true, true, true, true, false]), (2, [true, true, true, true, true])] 2 _ _ _ ?_
          simp only [q_vcs, q_vcc, q_vl, q_vu, ↓reduceIte, Nat.reduceEqDiff, Bool.false_eq_true, q_isc, q_mk, q_msk, zbX11_lays, q_pad, q_ent, q_get, q_put, q_nl, q_w, List.cons_append, List.nil_append, q_aks, q_als, Nat.reduceAdd, Nat.reduceLeDiff, Nat.zero_le, true_and, and_true, Option.some.injEq, Sum.inl.injEq, Sum.inr.injEq, true_or, or_true, and_self, q_sw]
          rw [i_cl (by omega), show Int32.ofNat 3 = nI 3 from rfl, nI_leI (by decide) (by omega), nI_1]
          refine ⟨i_in (by omega) (by decide), by decide, fun _ => ih (k + 1) S2 (by omega) (fun i hi => ?_) g3, fun h => absurd (by omega) h⟩
          by_cases e : i = k
          · subst e
            intro q hq
            exact g2 q (by omega)
          · exact g1 i (by omega)
        | succ r2 ih2 =>
          intro j S2 hj g1 g2 g3
          refine step 40 [(1, [true, true, true, true, false]), (2, [true, true, true, true, true])] 2 _ _ _ ?_
          simp only [q_vcs, q_vcc, q_vl, q_vu, ↓reduceIte, Nat.reduceEqDiff, Bool.false_eq_true, q_isc, q_mk, q_msk, zbX11_lays, q_pad, q_ent, q_get, q_put, q_nl, q_w, List.cons_append, List.nil_append, q_aks, q_als, Nat.reduceAdd, Nat.reduceLeDiff, Nat.zero_le, true_and, and_true, Option.some.injEq, Sum.inl.injEq, Sum.inr.injEq, true_or, or_true, and_self, q_sw]
          have e1 : q_I S2 50 k j = q_I S 50 k j := by rw [(g3 50 k (by omega)).1]
          rw [i_cl (by omega), i_cl (by omega), show Int32.ofNat 3 = nI 3 from rfl, nI_leI (by decide) (by omega), nI_1, nI_1, e1]
          refine ⟨i_in (by omega) (by decide), by decide, fun h => absurd h (by omega), fun _ => ⟨i_in (by omega) (by decide), i_in (by omega) (by decide), i_in (by omega) (by decide), i_in (by omega) (by decide), ?_⟩⟩
          refine ih2 (j + 1) _ (by omega) (fun i hi q hq => ?_) (fun q hq => ?_) (fr.wI (F := fun f _ => f = 52) g3 rfl)
          · rw [q_I_wI, if_neg (by omega)]
            exact g1 i hi q hq
          · rw [q_I_wI]
            by_cases e : q = j
            · subst e
              simp
            · rw [if_neg (by omega)]
              exact g2 q (by omega)
      refine step 40 [(1, [true, true, true, true, false]), (2, [true, true, true, true, true])] 1 _ _ _ ?_
      simp only [q_vcs, q_vcc, q_vl, q_vu, ↓reduceIte, Nat.reduceEqDiff, Bool.false_eq_true, q_isc, q_mk, q_msk, zbX11_lays, q_pad, q_ent, q_get, q_put, q_nl, q_w, List.cons_append, List.nil_append, q_aks, q_als, Nat.reduceAdd, Nat.reduceLeDiff, Nat.zero_le, true_and, and_true, Option.some.injEq, Sum.inl.injEq, Sum.inr.injEq, true_or, or_true, and_self, q_sw]
      rw [nI_leI (by omega) (by omega)]
      exact ⟨fun h => absurd h (by omega), fun _ => inner 3 0 S1 (by omega) h1 (fun q hq => by omega) h2⟩
  refine step 40 [(1, [true, true, true, true, false])] 0 _ _ _ ?_
  simp only [q_vcs, q_vcc, q_vl, q_vu, ↓reduceIte, Nat.reduceEqDiff, Bool.false_eq_true, q_isc, q_mk, q_msk, zbX11_lays, q_pad, q_ent, q_get, q_put, q_nl, q_w, List.cons_append, List.nil_append, q_aks, q_als, Nat.reduceAdd, Nat.reduceLeDiff, Nat.zero_le, true_and, and_true, Option.some.injEq, Sum.inl.injEq, Sum.inr.injEq, true_or, or_true, and_self, q_sw]
  exact hL m 0 S (by omega) (fun i hi => by omega) fr.rf
theorem c_mlays55 (l : Launch) (S : qSt) {m : Nat} (hm : m ≤ 160) : q_Met q_mt l 0 k_X11_lays 0 [.inr (.inr (55, 0)), .inr (.inr (53, 0)), .inl (nI m)] S (fun _ S' => (∀ k, k < m → ∀ j, j < 2 → q_I S' 54 k j = q_I S 56 k j) ∧ fr (fun f _ => f = 54) S S') := by
  refine q_meth zoX11_lays q_fos (Nat.le_of_ble_eq_true rfl) ?_
  intro AT step
  have hL : ∀ (r k : Nat) (S1 : qSt), k + r = m → (∀ i, i < k → ∀ j, j < 2 → q_I S1 54 i j = q_I S 56 i j) → fr (fun f _ => f = 54) S S1 → AT 1 [some (.inr (.inr (55, 0))), some (.inr (.inr (53, 0))), some (.inl (nI m)), some (.inl (nI k)), none] [] S1 := by
    intro r
    induction r with
    | zero =>
      intro k S1 hk h1 h2
      refine step 40 [(1, [true, true, true, true, false]), (2, [true, true, true, true, true])] 1 _ _ _ ?_
      simp only [q_vcs, q_vcc, q_vl, q_vu, ↓reduceIte, Nat.reduceEqDiff, Bool.false_eq_true, q_isc, q_mk, q_msk, zbX11_lays, q_pad, q_ent, q_get, q_put, q_nl, q_w, List.cons_append, List.nil_append, q_aks, q_als, Nat.reduceAdd, Nat.reduceLeDiff, Nat.zero_le, true_and, and_true, Option.some.injEq, Sum.inl.injEq, Sum.inr.injEq, true_or, or_true, and_self, q_sw]
      rw [nI_leI (by omega) (by omega)]
      refine ⟨fun _ => ⟨fun i hi => h1 i (by omega), h2⟩, fun h => absurd (by omega) h⟩
    | succ r ih =>
      intro k S1 hk h1 h2
      have inner : ∀ (r2 j : Nat) (S2 : qSt), j + r2 = 2 → (∀ i, i < k → ∀ j, j < 2 → q_I S2 54 i j = q_I S 56 i j) → (∀ q, q < j → q_I S2 54 k q = q_I S 56 k q) → fr (fun f _ => f = 54) S S2 → AT 2 [some (.inr (.inr (55, 0))), some (.inr (.inr (53, 0))), some (.inl (nI m)), some (.inl (nI k)), some (.inl (nI j))] [] S2 := by
        intro r2
        induction r2 with
        | zero =>
          intro j S2 hj g1 g2 g3
          refine step 40 [(1, [true, true, true, true, false]), (2, [true, true, true, true, true])] 2 _ _ _ ?_
          simp only [q_vcs, q_vcc, q_vl, q_vu, ↓reduceIte, Nat.reduceEqDiff, Bool.false_eq_true, q_isc, q_mk, q_msk, zbX11_lays, q_pad, q_ent, q_get, q_put, q_nl, q_w, List.cons_append, List.nil_append, q_aks, q_als, Nat.reduceAdd, Nat.reduceLeDiff, Nat.zero_le, true_and, and_true, Option.some.injEq, Sum.inl.injEq, Sum.inr.injEq, true_or, or_true, and_self, q_sw]
          rw [i_cl (by omega), show Int32.ofNat 2 = nI 2 from rfl, nI_leI (by decide) (by omega), nI_1]
          refine ⟨i_in (by omega) (by decide), by decide, fun _ => ih (k + 1) S2 (by omega) (fun i hi => ?_) g3, fun h => absurd (by omega) h⟩
          by_cases e : i = k
          · subst e
            intro q hq
            exact g2 q (by omega)
          · exact g1 i (by omega)
        | succ r2 ih2 =>
          intro j S2 hj g1 g2 g3
          refine step 40 [(1, [true, true, true, true, false]), (2, [true, true, true, true, true])] 2 _ _ _ ?_
          simp only [q_vcs, q_vcc, q_vl, q_vu, ↓reduceIte, Nat.reduceEqDiff, Bool.false_eq_true, q_isc, q_mk, q_msk, zbX11_lays, q_pad, q_ent, q_get, q_put, q_nl, q_w, List.cons_append, List.nil_append, q_aks, q_als, Nat.reduceAdd, Nat.reduceLeDiff, Nat.zero_le, true_and, and_true, Option.some.injEq, Sum.inl.injEq, Sum.inr.injEq, true_or, or_true, and_self, q_sw]
          have e1 : q_I S2 56 k j = q_I S 56 k j := by rw [(g3 56 k (by omega)).1]
          rw [i_cl (by omega), i_cl (by omega), show Int32.ofNat 2 = nI 2 from rfl, nI_leI (by decide) (by omega), nI_1, nI_1, e1]
          refine ⟨i_in (by omega) (by decide), by decide, fun h => absurd h (by omega), fun _ => ⟨i_in (by omega) (by decide), i_in (by omega) (by decide), i_in (by omega) (by decide), i_in (by omega) (by decide), ?_⟩⟩
          refine ih2 (j + 1) _ (by omega) (fun i hi q hq => ?_) (fun q hq => ?_) (fr.wI (F := fun f _ => f = 54) g3 rfl)
          · rw [q_I_wI, if_neg (by omega)]
            exact g1 i hi q hq
          · rw [q_I_wI]
            by_cases e : q = j
            · subst e
              simp
            · rw [if_neg (by omega)]
              exact g2 q (by omega)
      refine step 40 [(1, [true, true, true, true, false]), (2, [true, true, true, true, true])] 1 _ _ _ ?_
      simp only [q_vcs, q_vcc, q_vl, q_vu, ↓reduceIte, Nat.reduceEqDiff, Bool.false_eq_true, q_isc, q_mk, q_msk, zbX11_lays, q_pad, q_ent, q_get, q_put, q_nl, q_w, List.cons_append, List.nil_append, q_aks, q_als, Nat.reduceAdd, Nat.reduceLeDiff, Nat.zero_le, true_and, and_true, Option.some.injEq, Sum.inl.injEq, Sum.inr.injEq, true_or, or_true, and_self, q_sw]
      rw [nI_leI (by omega) (by omega)]
      exact ⟨fun h => absurd h (by omega), fun _ => inner 2 0 S1 (by omega) h1 (fun q hq => by omega) h2⟩
  refine step 40 [(1, [true, true, true, true, false])] 0 _ _ _ ?_
  simp only [q_vcs, q_vcc, q_vl, q_vu, ↓reduceIte, Nat.reduceEqDiff, Bool.false_eq_true, q_isc, q_mk, q_msk, zbX11_lays, q_pad, q_ent, q_get, q_put, q_nl, q_w, List.cons_append, List.nil_append, q_aks, q_als, Nat.reduceAdd, Nat.reduceLeDiff, Nat.zero_le, true_and, and_true, Option.some.injEq, Sum.inl.injEq, Sum.inr.injEq, true_or, or_true, and_self, q_sw]
  exact hL m 0 S (by omega) (fun i hi => by omega) fr.rf
theorem c_mlays59 (l : Launch) (S : qSt) {m : Nat} (hm : m ≤ 12) : q_Met q_mt l 0 k_X11_lays 0 [.inr (.inr (59, 0)), .inr (.inr (57, 0)), .inl (nI m)] S (fun _ S' => (∀ k, k < m → ∀ j, j < 3 → q_I S' 58 k j = q_I S 60 k j) ∧ fr (fun f _ => f = 58) S S') := by
  refine q_meth zoX11_lays q_fos (Nat.le_of_ble_eq_true rfl) ?_
  intro AT step
  have hL : ∀ (r k : Nat) (S1 : qSt), k + r = m → (∀ i, i < k → ∀ j, j < 3 → q_I S1 58 i j = q_I S 60 i j) → fr (fun f _ => f = 58) S S1 → AT 1 [some (.inr (.inr (59, 0))), some (.inr (.inr (57, 0))), some (.inl (nI m)), some (.inl (nI k)), none] [] S1 := by
    intro r
    induction r with
    | zero =>
      intro k S1 hk h1 h2
      refine step 40 [(1, [true, true, true, true, false]), (2, [true, true, true, true, true])] 1 _ _ _ ?_
      simp only [q_vcs, q_vcc, q_vl, q_vu, ↓reduceIte, Nat.reduceEqDiff, Bool.false_eq_true, q_isc, q_mk, q_msk, zbX11_lays, q_pad, q_ent, q_get, q_put, q_nl, q_w, List.cons_append, List.nil_append, q_aks, q_als, Nat.reduceAdd, Nat.reduceLeDiff, Nat.zero_le, true_and, and_true, Option.some.injEq, Sum.inl.injEq, Sum.inr.injEq, true_or, or_true, and_self, q_sw]
      rw [nI_leI (by omega) (by omega)]
      refine ⟨fun _ => ⟨fun i hi => h1 i (by omega), h2⟩, fun h => absurd (by omega) h⟩
    | succ r ih =>
      intro k S1 hk h1 h2
      have inner : ∀ (r2 j : Nat) (S2 : qSt), j + r2 = 3 → (∀ i, i < k → ∀ j, j < 3 → q_I S2 58 i j = q_I S 60 i j) → (∀ q, q < j → q_I S2 58 k q = q_I S 60 k q) → fr (fun f _ => f = 58) S S2 → AT 2 [some (.inr (.inr (59, 0))), some (.inr (.inr (57, 0))), some (.inl (nI m)), some (.inl (nI k)), some (.inl (nI j))] [] S2 := by
        intro r2
        induction r2 with
        | zero =>
          intro j S2 hj g1 g2 g3
          refine step 40 [(1, [true, true, true, true, false]), (2, [true, true, true, true, true])] 2 _ _ _ ?_
          simp only [q_vcs, q_vcc, q_vl, q_vu, ↓reduceIte, Nat.reduceEqDiff, Bool.false_eq_true, q_isc, q_mk, q_msk, zbX11_lays, q_pad, q_ent, q_get, q_put, q_nl, q_w, List.cons_append, List.nil_append, q_aks, q_als, Nat.reduceAdd, Nat.reduceLeDiff, Nat.zero_le, true_and, and_true, Option.some.injEq, Sum.inl.injEq, Sum.inr.injEq, true_or, or_true, and_self, q_sw]
          rw [i_cl (by omega), show Int32.ofNat 3 = nI 3 from rfl, nI_leI (by decide) (by omega), nI_1]
          refine ⟨i_in (by omega) (by decide), by decide, fun _ => ih (k + 1) S2 (by omega) (fun i hi => ?_) g3, fun h => absurd (by omega) h⟩
          by_cases e : i = k
          · subst e
            intro q hq
            exact g2 q (by omega)
          · exact g1 i (by omega)
        | succ r2 ih2 =>
          intro j S2 hj g1 g2 g3
          refine step 40 [(1, [true, true, true, true, false]), (2, [true, true, true, true, true])] 2 _ _ _ ?_
          simp only [q_vcs, q_vcc, q_vl, q_vu, ↓reduceIte, Nat.reduceEqDiff, Bool.false_eq_true, q_isc, q_mk, q_msk, zbX11_lays, q_pad, q_ent, q_get, q_put, q_nl, q_w, List.cons_append, List.nil_append, q_aks, q_als, Nat.reduceAdd, Nat.reduceLeDiff, Nat.zero_le, true_and, and_true, Option.some.injEq, Sum.inl.injEq, Sum.inr.injEq, true_or, or_true, and_self, q_sw]
          have e1 : q_I S2 60 k j = q_I S 60 k j := by rw [(g3 60 k (by omega)).1]
          rw [i_cl (by omega), i_cl (by omega), show Int32.ofNat 3 = nI 3 from rfl, nI_leI (by decide) (by omega), nI_1, nI_1, e1]
          refine ⟨i_in (by omega) (by decide), by decide, fun h => absurd h (by omega), fun _ => ⟨i_in (by omega) (by decide), i_in (by omega) (by decide), i_in (by omega) (by decide), i_in (by omega) (by decide), ?_⟩⟩
          refine ih2 (j + 1) _ (by omega) (fun i hi q hq => ?_) (fun q hq => ?_) (fr.wI (F := fun f _ => f = 58) g3 rfl)
          · rw [q_I_wI, if_neg (by omega)]
            exact g1 i hi q hq
          · rw [q_I_wI]
            by_cases e : q = j
            · subst e
              simp
            · rw [if_neg (by omega)]
              exact g2 q (by omega)
      refine step 40 [(1, [true, true, true, true, false]), (2, [true, true, true, true, true])] 1 _ _ _ ?_
      simp only [q_vcs, q_vcc, q_vl, q_vu, ↓reduceIte, Nat.reduceEqDiff, Bool.false_eq_true, q_isc, q_mk, q_msk, zbX11_lays, q_pad, q_ent, q_get, q_put, q_nl, q_w, List.cons_append, List.nil_append, q_aks, q_als, Nat.reduceAdd, Nat.reduceLeDiff, Nat.zero_le, true_and, and_true, Option.some.injEq, Sum.inl.injEq, Sum.inr.injEq, true_or, or_true, and_self, q_sw]
      rw [nI_leI (by omega) (by omega)]
      exact ⟨fun h => absurd h (by omega), fun _ => inner 3 0 S1 (by omega) h1 (fun q hq => by omega) h2⟩
  refine step 40 [(1, [true, true, true, true, false])] 0 _ _ _ ?_
  simp only [q_vcs, q_vcc, q_vl, q_vu, ↓reduceIte, Nat.reduceEqDiff, Bool.false_eq_true, q_isc, q_mk, q_msk, zbX11_lays, q_pad, q_ent, q_get, q_put, q_nl, q_w, List.cons_append, List.nil_append, q_aks, q_als, Nat.reduceAdd, Nat.reduceLeDiff, Nat.zero_le, true_and, and_true, Option.some.injEq, Sum.inl.injEq, Sum.inr.injEq, true_or, or_true, and_self, q_sw]
  exact hL m 0 S (by omega) (fun i hi => by omega) fr.rf
theorem c_mcopies (l : Launch) (S : qSt) {i k : Nat} (hik : i ≠ k) : q_Met q_mt l 0 k_X11_copies 0 [.inr (.inr (65, i)), .inr (.inr (65, k))] S (fun _ S' => (∀ j, j < 29 → q_I S' 65 k j = q_I S 65 i j) ∧ fr (Fm k) S S') := by
  refine q_meth zoX11_copies q_fos (Nat.le_of_ble_eq_true rfl) ?_
  intro AT step
  have hL : ∀ (r j : Nat) (S1 : qSt), j + r = 29 → (∀ q, q < j → q_I S1 65 k q = q_I S 65 i q) → fr (Fm k) S S1 → AT 1 [some (.inr (.inr (65, i))), some (.inr (.inr (65, k))), some (.inl (nI j))] [] S1 := by
    intro r
    induction r with
    | zero =>
      intro j S1 hj h1 h2
      refine step 40 [(1, [true, true, true])] 1 _ _ _ ?_
      simp only [q_vcs, q_vcc, q_vl, q_vu, ↓reduceIte, Nat.reduceEqDiff, Bool.false_eq_true, q_isc, q_mk, q_msk, zbX11_copies, q_pad, q_ent, q_get, q_put, q_nl, q_w, List.cons_append, List.nil_append, q_aks, q_als, Nat.reduceAdd, Nat.reduceLeDiff, Nat.zero_le, true_and, and_true, Option.some.injEq, Sum.inl.injEq, Sum.inr.injEq, true_or, or_true, and_self, q_sw]
      rw [show (29 : Int32) = nI 29 from rfl, nI_leI (by decide) (by omega)]
      exact ⟨fun _ => ⟨fun q hq => h1 q (by omega), h2⟩, fun h => absurd (by omega) h⟩
    | succ r ih =>
      intro j S1 hj h1 h2
      refine step 40 [(1, [true, true, true])] 1 _ _ _ ?_
      simp only [q_vcs, q_vcc, q_vl, q_vu, ↓reduceIte, Nat.reduceEqDiff, Bool.false_eq_true, q_isc, q_mk, q_msk, zbX11_copies, q_pad, q_ent, q_get, q_put, q_nl, q_w, List.cons_append, List.nil_append, q_aks, q_als, Nat.reduceAdd, Nat.reduceLeDiff, Nat.zero_le, true_and, and_true, Option.some.injEq, Sum.inl.injEq, Sum.inr.injEq, true_or, or_true, and_self, q_sw]
      have e1 : q_I S1 65 i j = q_I S 65 i j := by rw [(h2 65 i (fun h => hik h.2)).1]
      rw [show (29 : Int32) = nI 29 from rfl, nI_leI (by decide) (by omega), i_cl (by omega), e1, nI_1]
      refine ⟨fun h => absurd h (by omega), fun _ => ⟨i_in (by omega) (by decide), i_in (by omega) (by decide), ?_⟩⟩
      refine ih (j + 1) _ (by omega) (fun q hq => ?_) (fr.wI h2 ⟨rfl, rfl⟩)
      rw [q_I_wI]
      by_cases e : q = j
      · subst e
        simp
      · rw [if_neg (by omega)]
        exact h1 q (by omega)
  refine step 40 [(1, [true, true, true])] 0 _ _ _ ?_
  simp only [q_vcs, q_vcc, q_vl, q_vu, ↓reduceIte, Nat.reduceEqDiff, Bool.false_eq_true, q_isc, q_mk, q_msk, zbX11_copies, q_pad, q_ent, q_get, q_put, q_nl, q_w, List.cons_append, List.nil_append, q_aks, q_als, Nat.reduceAdd, Nat.reduceLeDiff, Nat.zero_le, true_and, and_true, Option.some.injEq, Sum.inl.injEq, Sum.inr.injEq, true_or, or_true, and_self, q_sw]
  exact hL 29 0 S (by omega) (fun q hq => by omega) fr.rf
theorem rv_copy {S S' : qSt} {i k : Nat} {V : PV} (hP : st_ok V.1) (h : RV S i V) (hc : ∀ j, j < 29 → q_I S' 65 k j = q_I S 65 i j) : RV S' k V := by
  obtain ⟨h1, h2, h3, h4⟩ := h
  refine ⟨fun l hl => ?_, fun c hc6 => ?_, ?_, ?_⟩
  · have h6 := (st_row hP hl).1
    refine ⟨?_, fun q hq => ?_⟩
    · rw [hc l (by omega)]; exact (h1 l hl).1
    · rw [hc _ (by omega)]; exact (h1 l hl).2 q hq
  · rw [hc _ (by omega)]; exact h2 c hc6
  · rw [hc _ (by omega)]; exact h3
  · rw [hc _ (by omega)]; exact h4
theorem c_mtellsNothing (l : Launch) (S : qSt) : q_Met q_mt l 0 k_X11_tellsNothing 0 [.inr (.inr (40, 0))] S (fun _ S' => MR S' Y0 ∧ fr (fun f _ => f = 43 ∨ f = 47) S S') := by
  refine q_meth zoX11_tellsNothing q_fos (Nat.le_of_ble_eq_true rfl) ?_
  intro AT step
  have hL : ∀ (r j : Nat) (S1 : qSt), j + r = 6 → (q_I S1 43 0 0 = nI 0 ∧ q_I S1 43 0 1 = nI 0 ∧ q_I S1 43 0 2 = nI 5) → (∀ c, c < j → q_I S1 47 0 c = nI (2 ^ c)) → fr (fun f _ => f = 43 ∨ f = 47) S S1 → AT 1 [some (.inr (.inr (40, 0))), some (.inl (nI j))] [] S1 := by
    intro r
    induction r with
    | zero =>
      intro j S1 hj h1 h2 h3
      refine step 40 [(1, [true, true])] 1 _ _ _ ?_
      simp only [q_vcs, q_vcc, q_vl, q_vu, ↓reduceIte, Nat.reduceEqDiff, Bool.false_eq_true, q_isc, q_mk, q_msk, zbX11_tellsNothing, q_pad, q_ent, q_get, q_put, q_nl, q_w, List.cons_append, List.nil_append, q_aks, q_als, Nat.reduceAdd, Nat.reduceLeDiff, Nat.zero_le, true_and, and_true, Option.some.injEq, Sum.inl.injEq, Sum.inr.injEq, true_or, or_true, and_self, q_sw]
      rw [show (6 : Int32) = nI 6 from rfl, nI_leI (by decide) (by omega)]
      refine ⟨fun _ => ⟨⟨h1, fun k hk => by simp [Y0] at hk, fun k hk => by simp [Y0] at hk, fun c hc => ?_⟩, h3⟩, fun h => absurd (by omega) h⟩
      rw [h2 c (by omega), if_neg (by simp [Y0])]
    | succ r ih =>
      intro j S1 hj h1 h2 h3
      refine step 40 [(1, [true, true])] 1 _ _ _ ?_
      simp only [q_vcs, q_vcc, q_vl, q_vu, ↓reduceIte, Nat.reduceEqDiff, Bool.false_eq_true, q_isc, q_mk, q_msk, zbX11_tellsNothing, q_pad, q_ent, q_get, q_put, q_nl, q_w, List.cons_append, List.nil_append, q_aks, q_als, Nat.reduceAdd, Nat.reduceLeDiff, Nat.zero_le, true_and, and_true, Option.some.injEq, Sum.inl.injEq, Sum.inr.injEq, true_or, or_true, and_self, q_sw]
      rw [show (6 : Int32) = nI 6 from rfl, nI_leI (by decide) (by omega), i_cl (by omega), i_1sh j (by omega), nI_1]
      refine ⟨fun h => absurd h (by omega), fun _ => ⟨i_in (by omega) (by decide), ?_⟩⟩
      refine ih (j + 1) _ (by omega) h1 (fun c hc => ?_) (fr.wI h3 (Or.inr rfl))
      rw [q_I_wI]
      by_cases e : c = j
      · subst e
        simp
      · rw [if_neg (by omega)]
        exact h2 c (by omega)
  refine step 40 [(1, [true, true])] 0 _ _ _ ?_
  simp only [q_vcs, q_vcc, q_vl, q_vu, ↓reduceIte, Nat.reduceEqDiff, Bool.false_eq_true, q_isc, q_mk, q_msk, zbX11_tellsNothing, q_pad, q_ent, q_get, q_put, q_nl, q_w, List.cons_append, List.nil_append, q_aks, q_als, Nat.reduceAdd, Nat.reduceLeDiff, Nat.zero_le, true_and, and_true, Option.some.injEq, Sum.inl.injEq, Sum.inr.injEq, true_or, or_true, and_self, q_sw]
  have v3 : ∀ k, k < 3 → vp_in (nI k) 3 := fun k hk => i_in hk (by decide)
  refine ⟨v3 0 (by decide), v3 1 (by decide), v3 2 (by decide), hL 6 0 _ (by omega) ⟨?_, ?_, ?_⟩ (fun c hc => by omega) (fr.wI (fr.wI (fr.wI fr.rf (Or.inl rfl)) (Or.inl rfl)) (Or.inl rfl))⟩
  · simp [q_I_wI, show Int32.toNatClampNeg 0 = 0 from rfl, show Int32.toNatClampNeg 1 = 1 from rfl, show Int32.toNatClampNeg 2 = 2 from rfl]; rfl
  · simp [q_I_wI, show Int32.toNatClampNeg 0 = 0 from rfl, show Int32.toNatClampNeg 1 = 1 from rfl, show Int32.toNatClampNeg 2 = 2 from rfl]; rfl
  · simp [q_I_wI, show Int32.toNatClampNeg 0 = 0 from rfl, show Int32.toNatClampNeg 1 = 1 from rfl, show Int32.toNatClampNeg 2 = 2 from rfl]; rfl
abbrev Fbg : Nat → Nat → Prop := fun f k => f = 40 ∨ f = 44 ∨ f = 46 ∨ f = 48 ∨ f = 52 ∨ (f = 65 ∧ k = 0)
def V0 : PV := (nil3, 0, fun _ => 0)
set_option maxHeartbeats 1000000 in
theorem c_mbeginsAnew (l : Launch) (S : qSt) {Y : YD} (hY : y_ok Y) (hMR : MR S Y) : q_Met q_mt l 1 k_X11_beginsAnew 0 [.inr (.inr (40, 0))] S (fun _ S' => MY S' Y ∧ RV S' 0 V0 ∧ (q_I S' 40 0 19 = nI 0 ∧ q_I S' 40 0 33 = nI 0 ∧ q_I S' 40 0 34 = nI 0 ∧ q_I S' 40 0 35 = nI 0 ∧ q_I S' 40 0 36 = nI 0) ∧ (∀ j, j ≠ 19 → j ≠ 33 → j ≠ 34 → j ≠ 35 → j ≠ 36 → q_I S' 40 0 j = q_I S 40 0 j) ∧ fr Fbg S S') := by
  obtain ⟨⟨m0, m1, m2⟩, m3, m4, m5⟩ := hMR
  have h3 := hY.1
  have h6 := hY.2.1
  have k0 : Int32.toNatClampNeg 0 = 0 := rfl
  have k1 : Int32.toNatClampNeg 1 = 1 := rfl
  have v3 : ∀ k, k < 3 → vp_in (nI k) 3 := fun k hk => i_in hk (by decide)
  refine q_meth zoX11_beginsAnew q_fos (Nat.le_of_ble_eq_true rfl) ?_
  intro AT step
  have l7 : ∀ (r j : Nat) (S1 : qSt), j + r = 29 → MY S1 Y → (∀ q, q < j → q_I S1 65 0 q = 0) → (∀ q, q_I S1 40 0 q = q_I S 40 0 q) → fr Fbg S S1 → AT 7 [some (.inr (.inr (40, 0))), some (.inl (nI j))] [] S1 := by
    intro r
    induction r with
    | zero =>
      intro j S1 hj g1 g2 g3 g4
      refine step 40 [(1, [true, true]), (3, [true, true]), (5, [true, true]), (7, [true, true])] 7 _ _ _ ?_
      simp only [q_vcs, q_vcc, q_vl, q_vu, ↓reduceIte, Nat.reduceEqDiff, Bool.false_eq_true, q_isc, q_mk, q_msk, zbX11_beginsAnew, q_pad, q_ent, q_get, q_put, q_nl, q_w, List.cons_append, List.nil_append, q_aks, q_als, Nat.reduceAdd, Nat.reduceLeDiff, Nat.zero_le, true_and, and_true, Option.some.injEq, Sum.inl.injEq, Sum.inr.injEq, true_or, or_true, and_self, q_sw]
      rw [show (29 : Int32) = nI 29 from rfl, nI_leI (by decide) (by omega)]
      refine ⟨fun _ => ?_, fun h => absurd (by omega) h⟩
      have hf5 : fr F40 S1 (q_wI (q_wI (q_wI (q_wI (q_wI S1 40 0 19 0) 40 0 33 0) 40 0 34 0) 40 0 35 0) 40 0 36 0) := fr40 (fr40 (fr40 (fr40 (fr40 fr.rf))))
      refine ⟨g1.fr hf5 (fun _ q => by cases q) (fun _ q => by cases q) (fun _ q => by cases q) (fun _ q => by cases q), ⟨fun k hk => ?_, fun c hc => ?_, ?_, ?_⟩, ⟨?_, ?_, ?_, ?_, ?_⟩, fun q q1 q2 q3 q4 q5 => ?_, g4.tr (hf5.mn fun f k h => Or.inl h)⟩
      · rw [(hf5 65 0 (fun q => by cases q)).1]
        refine ⟨?_, fun q hq => by simp [V0, nil3] at hq⟩
        rw [g2 k (by omega)]
        simp [V0, nil3]
        rfl
      · rw [(hf5 65 0 (fun q => by cases q)).1, g2 _ (by omega)]; rfl
      · rw [(hf5 65 0 (fun q => by cases q)).1, g2 _ (by omega)]; rfl
      · rw [(hf5 65 0 (fun q => by cases q)).1, g2 _ (by omega)]; rfl
      · simp [q_I_wI]; rfl
      · simp [q_I_wI]; rfl
      · simp [q_I_wI]; rfl
      · simp [q_I_wI]; rfl
      · simp [q_I_wI]; rfl
      · simp only [q_I_wI]
        rw [if_neg (by omega), if_neg (by omega), if_neg (by omega), if_neg (by omega), if_neg (by omega)]
        exact g3 q
    | succ r ih =>
      intro j S1 hj g1 g2 g3 g4
      refine step 40 [(1, [true, true]), (3, [true, true]), (5, [true, true]), (7, [true, true])] 7 _ _ _ ?_
      simp only [q_vcs, q_vcc, q_vl, q_vu, ↓reduceIte, Nat.reduceEqDiff, Bool.false_eq_true, q_isc, q_mk, q_msk, zbX11_beginsAnew, q_pad, q_ent, q_get, q_put, q_nl, q_w, List.cons_append, List.nil_append, q_aks, q_als, Nat.reduceAdd, Nat.reduceLeDiff, Nat.zero_le, true_and, and_true, Option.some.injEq, Sum.inl.injEq, Sum.inr.injEq, true_or, or_true, and_self, q_sw]
      rw [show (29 : Int32) = nI 29 from rfl, nI_leI (by decide) (by omega), i_cl (by omega), nI_1]
      refine ⟨fun h => absurd h (by omega), fun _ => ⟨i_in (by omega) (by decide), ?_⟩⟩
      refine ih (j + 1) _ (by omega) (g1.fr (F := Fm 0) (fr.wI fr.rf ⟨rfl, rfl⟩) (fun _ q => by cases q.1) (fun _ q => by cases q.1) (fun _ q => by cases q.1) (fun _ q => by cases q.1)) (fun q hq => ?_) (fun q => by rw [q_I_wI, if_neg (by omega)]; exact g3 q) (fr.wI g4 (by omega))
      rw [q_I_wI]
      by_cases e : q = j
      · subst e; simp
      · rw [if_neg (by omega)]; exact g2 q (by omega)
  have l5 : ∀ (r j : Nat) (S1 : qSt), j + r = 6 → (q_I S1 44 0 0 = nI (Y 0 0) ∧ q_I S1 44 0 1 = nI (Y 1 0) ∧ q_I S1 44 0 2 = nI (Y 2 0)) → (∀ k, k < Y 0 0 → q_I S1 46 0 k = nI (Y 3 k)) → (∀ c, c < j → q_I S1 48 0 c = nI (if c < Y 1 0 then Y 7 c else 2 ^ c)) → (∀ q, q_I S1 40 0 q = q_I S 40 0 q) → fr Fbg S S1 → AT 5 [some (.inr (.inr (40, 0))), some (.inl (nI j))] [] S1 := by
    intro r
    induction r with
    | zero =>
      intro j S1 hj g1 g2 g3 g4 g5
      refine step 40 [(1, [true, true]), (3, [true, true]), (5, [true, true]), (7, [true, true])] 5 _ _ _ ?_
      simp only [q_vcs, q_vcc, q_vl, q_vu, ↓reduceIte, Nat.reduceEqDiff, Bool.false_eq_true, q_isc, q_mk, q_msk, zbX11_beginsAnew, q_pad, q_ent, q_get, q_put, q_nl, q_w, List.cons_append, List.nil_append, q_aks, q_als, Nat.reduceAdd, Nat.reduceLeDiff, Nat.zero_le, true_and, and_true, Option.some.injEq, Sum.inl.injEq, Sum.inr.injEq, true_or, or_true, and_self, q_sw]
      rw [show (6 : Int32) = nI 6 from rfl, nI_leI (by decide) (by omega), k1, g1.2.1]
      refine ⟨fun _ => ⟨v3 1 (by decide), _, _, (by decide : 0 < 1), c_mlays49 l S1 h6, fun S2 h2 => ?_⟩, fun h => absurd (by omega) h⟩
      refine l7 29 0 S2 (by omega) ⟨?_, ?_, ?_, ?_, ?_⟩ (fun q hq => by omega) (fun q => by rw [(h2.2 40 0 (fun q => by cases q)).1]; exact g4 q) (g5.tr (h2.2.mn fun f k h => by omega))
      · rw [(h2.2 44 0 (fun q => by cases q)).1]; exact g1.1
      · rw [(h2.2 44 0 (fun q => by cases q)).1]; exact g1.2.1
      · rw [(h2.2 44 0 (fun q => by cases q)).1]; exact g1.2.2
      · intro q hq
        rw [(h2.2 46 0 (fun q => by cases q)).1]; exact g2 q hq
      · intro q hq
        have hrow : ∀ i, q_I S1 50 q i = q_I S 50 q i := fun i => by rw [(g5 50 q (by omega)).1]
        have mm := m4 q hq
        refine ⟨?_, ?_, ?_, ?_⟩
        · rw [h2.1 q hq 0 (by decide), hrow]; exact mm.1
        · rw [h2.1 q hq 1 (by decide), hrow]; exact mm.2.1
        · rw [h2.1 q hq 2 (by decide), hrow]; exact mm.2.2
        · rw [(h2.2 48 0 (fun q => by cases q)).1, g3 q (by omega), if_pos hq]
    | succ r ih =>
      intro j S1 hj g1 g2 g3 g4 g5
      refine step 40 [(1, [true, true]), (3, [true, true]), (5, [true, true]), (7, [true, true])] 5 _ _ _ ?_
      simp only [q_vcs, q_vcc, q_vl, q_vu, ↓reduceIte, Nat.reduceEqDiff, Bool.false_eq_true, q_isc, q_mk, q_msk, zbX11_beginsAnew, q_pad, q_ent, q_get, q_put, q_nl, q_w, List.cons_append, List.nil_append, q_aks, q_als, Nat.reduceAdd, Nat.reduceLeDiff, Nat.zero_le, true_and, and_true, Option.some.injEq, Sum.inl.injEq, Sum.inr.injEq, true_or, or_true, and_self, q_sw]
      have e1 : q_I S1 47 0 j = nI (if j < Y 1 0 then Y 7 j else 2 ^ j) := by rw [(g5 47 0 (by omega)).1]; exact m5 j (by omega)
      rw [show (6 : Int32) = nI 6 from rfl, nI_leI (by decide) (by omega), i_cl (by omega), e1, nI_1]
      refine ⟨fun h => absurd h (by omega), fun _ => ⟨i_in (by omega) (by decide), i_in (by omega) (by decide), ?_⟩⟩
      refine ih (j + 1) _ (by omega) g1 g2 (fun c hc => ?_) g4 (fr.wI g5 (by omega))
      rw [q_I_wI]
      by_cases e : c = j
      · subst e; simp
      · rw [if_neg (by omega)]; exact g3 c (by omega)
  have l3 : ∀ (r j : Nat) (S1 : qSt), j + r = Y 0 0 → (q_I S1 44 0 0 = nI (Y 0 0) ∧ q_I S1 44 0 1 = nI (Y 1 0) ∧ q_I S1 44 0 2 = nI (Y 2 0)) → (∀ k, k < j → q_I S1 46 0 k = nI (Y 3 k)) → (∀ q, q_I S1 40 0 q = q_I S 40 0 q) → fr Fbg S S1 → AT 3 [some (.inr (.inr (40, 0))), some (.inl (nI j))] [] S1 := by
    intro r
    induction r with
    | zero =>
      intro j S1 hj g1 g2 g4 g5
      refine step 40 [(1, [true, true]), (3, [true, true]), (5, [true, true]), (7, [true, true])] 3 _ _ _ ?_
      simp only [q_vcs, q_vcc, q_vl, q_vu, ↓reduceIte, Nat.reduceEqDiff, Bool.false_eq_true, q_isc, q_mk, q_msk, zbX11_beginsAnew, q_pad, q_ent, q_get, q_put, q_nl, q_w, List.cons_append, List.nil_append, q_aks, q_als, Nat.reduceAdd, Nat.reduceLeDiff, Nat.zero_le, true_and, and_true, Option.some.injEq, Sum.inl.injEq, Sum.inr.injEq, true_or, or_true, and_self, q_sw]
      rw [k0, g1.1, nI_leI (by omega) (by omega)]
      exact ⟨v3 0 (by decide), fun _ => l5 6 0 S1 (by omega) g1 (fun k hk => g2 k (by omega)) (fun c hc => by omega) g4 g5, fun h => absurd (by omega) h⟩
    | succ r ih =>
      intro j S1 hj g1 g2 g4 g5
      refine step 40 [(1, [true, true]), (3, [true, true]), (5, [true, true]), (7, [true, true])] 3 _ _ _ ?_
      simp only [q_vcs, q_vcc, q_vl, q_vu, ↓reduceIte, Nat.reduceEqDiff, Bool.false_eq_true, q_isc, q_mk, q_msk, zbX11_beginsAnew, q_pad, q_ent, q_get, q_put, q_nl, q_w, List.cons_append, List.nil_append, q_aks, q_als, Nat.reduceAdd, Nat.reduceLeDiff, Nat.zero_le, true_and, and_true, Option.some.injEq, Sum.inl.injEq, Sum.inr.injEq, true_or, or_true, and_self, q_sw]
      have e1 : q_I S1 45 0 j = nI (Y 3 j) := by rw [(g5 45 0 (by omega)).1]; exact m3 j (by omega)
      rw [k0, g1.1, nI_leI (by omega) (by omega), i_cl (by omega), e1, nI_1]
      refine ⟨v3 0 (by decide), fun h => absurd h (by omega), fun _ => ⟨i_in (by omega) (by decide), i_in (by omega) (by decide), ?_⟩⟩
      refine ih (j + 1) _ (by omega) g1 (fun c hc => ?_) g4 (fr.wI g5 (by omega))
      rw [q_I_wI]
      by_cases e : c = j
      · subst e; simp
      · rw [if_neg (by omega)]; exact g2 c (by omega)
  have l1 : ∀ (r j : Nat) (S1 : qSt), j + r = 3 → (∀ k, k < j → q_I S1 44 0 k = q_I S 43 0 k) → (∀ q, q_I S1 40 0 q = q_I S 40 0 q) → fr Fbg S S1 → AT 1 [some (.inr (.inr (40, 0))), some (.inl (nI j))] [] S1 := by
    intro r
    induction r with
    | zero =>
      intro j S1 hj g1 g4 g5
      refine step 40 [(1, [true, true]), (3, [true, true]), (5, [true, true]), (7, [true, true])] 1 _ _ _ ?_
      simp only [q_vcs, q_vcc, q_vl, q_vu, ↓reduceIte, Nat.reduceEqDiff, Bool.false_eq_true, q_isc, q_mk, q_msk, zbX11_beginsAnew, q_pad, q_ent, q_get, q_put, q_nl, q_w, List.cons_append, List.nil_append, q_aks, q_als, Nat.reduceAdd, Nat.reduceLeDiff, Nat.zero_le, true_and, and_true, Option.some.injEq, Sum.inl.injEq, Sum.inr.injEq, true_or, or_true, and_self, q_sw]
      rw [show (3 : Int32) = nI 3 from rfl, nI_leI (by decide) (by omega)]
      refine ⟨fun _ => l3 (Y 0 0) 0 S1 (by omega) ⟨?_, ?_, ?_⟩ (fun k hk => by omega) g4 g5, fun h => absurd (by omega) h⟩
      · rw [g1 0 (by omega)]; exact m0
      · rw [g1 1 (by omega)]; exact m1
      · rw [g1 2 (by omega)]; exact m2
    | succ r ih =>
      intro j S1 hj g1 g4 g5
      refine step 40 [(1, [true, true]), (3, [true, true]), (5, [true, true]), (7, [true, true])] 1 _ _ _ ?_
      simp only [q_vcs, q_vcc, q_vl, q_vu, ↓reduceIte, Nat.reduceEqDiff, Bool.false_eq_true, q_isc, q_mk, q_msk, zbX11_beginsAnew, q_pad, q_ent, q_get, q_put, q_nl, q_w, List.cons_append, List.nil_append, q_aks, q_als, Nat.reduceAdd, Nat.reduceLeDiff, Nat.zero_le, true_and, and_true, Option.some.injEq, Sum.inl.injEq, Sum.inr.injEq, true_or, or_true, and_self, q_sw]
      have e1 : q_I S1 43 0 j = q_I S 43 0 j := by rw [(g5 43 0 (by omega)).1]
      rw [show (3 : Int32) = nI 3 from rfl, nI_leI (by decide) (by omega), i_cl (by omega), e1, nI_1]
      refine ⟨fun h => absurd h (by omega), fun _ => ⟨i_in (by omega) (by decide), i_in (by omega) (by decide), ?_⟩⟩
      refine ih (j + 1) _ (by omega) (fun c hc => ?_) g4 (fr.wI g5 (by omega))
      rw [q_I_wI]
      by_cases e : c = j
      · subst e; simp
      · rw [if_neg (by omega)]; exact g1 c (by omega)
  refine step 40 [(1, [true, true]), (3, [true, true]), (5, [true, true]), (7, [true, true])] 0 _ _ _ ?_
  simp only [q_vcs, q_vcc, q_vl, q_vu, ↓reduceIte, Nat.reduceEqDiff, Bool.false_eq_true, q_isc, q_mk, q_msk, zbX11_beginsAnew, q_pad, q_ent, q_get, q_put, q_nl, q_w, List.cons_append, List.nil_append, q_aks, q_als, Nat.reduceAdd, Nat.reduceLeDiff, Nat.zero_le, true_and, and_true, Option.some.injEq, Sum.inl.injEq, Sum.inr.injEq, true_or, or_true, and_self, q_sw]
  exact l1 3 0 S (by omega) (fun k hk => by omega) (fun q => rfl) fr.rf
