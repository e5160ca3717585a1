/-! need, needLane, needCar: their contracts -/
abbrev sIA : String := "java/lang/IllegalArgumentException"
abbrev sNS : String := "java/util/NoSuchElementException"
def xpI (S : qSt) : String → qSt → Prop := fun E S' => E = sIA ∧ S' = q_wI S 0 0 15 (q_I S 0 0 15 + 1)
def xpN (S : qSt) : String → qSt → Prop := fun E S' => E = sNS ∧ S' = q_wI S 0 0 14 (q_I S 0 0 14 + 1)
theorem c_need (l : Launch) (S : qSt) : q_Met q_mt l 1 k_X10_need 0 [.inr (.inr (0, 0)), .inl 1] S (fun _ S' => S' = S) := by
  refine q_meth zoX10_need q_fos (Nat.le_of_ble_eq_true rfl) ?_
  intro AT step
  refine step 40 [] 0 _ _ _ ?_
  simp only [q_vcs, q_vcc, q_vl, q_vu, ↓reduceIte, Nat.reduceEqDiff, Bool.false_eq_true, q_isc, q_mk, q_msk, zbX10_need, q_pad, q_ent, q_get, q_put, q_nl, q_w, List.cons_append, List.nil_append, q_aks, q_als, Nat.reduceAdd, Nat.reduceLeDiff, Nat.zero_le, true_and, and_true, Option.some.injEq, Sum.inl.injEq, Sum.inr.injEq, true_or, or_true, and_self, q_sw]
  exact ⟨fun _ => trivial, fun h => absurd h (by decide)⟩
theorem c_needT (l : Launch) (hl : l.stackTraces = false) (S : qSt) : q_Thr q_mt l 6 k_X10_need 0 [.inr (.inr (0, 0)), .inl 0] S (xpI S) := by
  refine q_methT zoX10_need q_fos (Nat.le_of_ble_eq_true rfl) (fun b ls st S1 => b = 1 ∧ st = [] ∧ xpI S sIA S1) ?_ ?_
  · intro G q p e R s m args below meth c hq Z b ls st S1 hck hX
    obtain ⟨rfl, rfl, hx⟩ := hX
    cases (show q_mt k_X10_need = some (yX10_need, cX10_need, 2, none) from rfl).symm.trans hq
    exact q_tnew Z hl (Nat.le_refl _) (rx := rxIA) (ix := 7) (by decide +kernel) (by decide +kernel) (by decide +kernel) (by decide +kernel) (by decide) xIA1 xIA2 (sj := 0) (is := 339) (by decide) (by decide +kernel) (by decide +kernel) (by decide +kernel) (by decide +kernel) (by decide +kernel) hx
  · intro AT step hX
    refine step 40 [(1, [true, true])] 0 _ _ _ ?_
    simp only [q_vcs, q_vcc, q_vl, q_vu, ↓reduceIte, Nat.reduceEqDiff, Bool.false_eq_true, q_isc, q_mk, q_msk, zbX10_need, q_pad, q_ent, q_get, q_put, q_nl, q_w, List.cons_append, List.nil_append, q_aks, q_als, Nat.reduceAdd, Nat.reduceLeDiff, Nat.zero_le, true_and, and_true, Option.some.injEq, Sum.inl.injEq, Sum.inr.injEq, true_or, or_true, and_self, q_sw]
    refine ⟨fun h => absurd trivial h, fun _ => hX 1 _ _ _ ⟨rfl, rfl, rfl, rfl⟩⟩
theorem c_needLane (l : Launch) (S : qSt) {x : Int32} (h : 0 ≤ x ∧ x ≤ q_I S 3 (q_M S 0 0 1) 0 - 1) : q_Met q_mt l 1 k_X10_needLane 0 [.inr (.inr (0, 0)), .inl x] S (fun _ S' => S' = S) := by
  refine q_meth zoX10_needLane q_fos (Nat.le_of_ble_eq_true rfl) ?_
  intro AT step
  refine step 40 [] 0 _ _ _ ?_
  simp only [q_vcs, q_vcc, q_vl, q_vu, ↓reduceIte, Nat.reduceEqDiff, Bool.false_eq_true, q_isc, q_mk, q_msk, zbX10_needLane, q_pad, q_ent, q_get, q_put, q_nl, q_w, List.cons_append, List.nil_append, q_aks, q_als, Nat.reduceAdd, Nat.reduceLeDiff, Nat.zero_le, true_and, and_true, Option.some.injEq, Sum.inl.injEq, Sum.inr.injEq, true_or, or_true, and_self, q_sw]
  refine q_u1 (by decide) (c_isWithin l S x 0 (q_I S 3 (q_M S 0 0 1) 0 - 1)) ?_
  rw [decide_eq_true h]
  exact ⟨fun _ => rfl, fun h => absurd h (by decide)⟩
theorem c_needLaneT (l : Launch) (hl : l.stackTraces = false) (S : qSt) {x : Int32} (h : ¬ (0 ≤ x ∧ x ≤ q_I S 3 (q_M S 0 0 1) 0 - 1)) : q_Thr q_mt l 6 k_X10_needLane 0 [.inr (.inr (0, 0)), .inl x] S (xpN S) := by
  refine q_methT zoX10_needLane q_fos (Nat.le_of_ble_eq_true rfl) (fun b ls st S1 => b = 1 ∧ st = [] ∧ xpN S sNS S1) ?_ ?_
  · intro G q p e R s m args below meth c hq Z b ls st S1 hck hX
    obtain ⟨rfl, rfl, hx⟩ := hX
    cases (show q_mt k_X10_needLane = some (yX10_needLane, cX10_needLane, 2, none) from rfl).symm.trans hq
    exact q_tnew Z hl (Nat.le_refl _) (rx := rxNS) (ix := 13) (by decide +kernel) (by decide +kernel) (by decide +kernel) (by decide +kernel) (by decide) xNS1 xNS2 (sj := 1) (is := 346) (by decide) (by decide +kernel) (by decide +kernel) (by decide +kernel) (by decide +kernel) (by decide +kernel) hx
  · intro AT step hX
    refine step 40 [(1, [true, true])] 0 _ _ _ ?_
    simp only [q_vcs, q_vcc, q_vl, q_vu, ↓reduceIte, Nat.reduceEqDiff, Bool.false_eq_true, q_isc, q_mk, q_msk, zbX10_needLane, q_pad, q_ent, q_get, q_put, q_nl, q_w, List.cons_append, List.nil_append, q_aks, q_als, Nat.reduceAdd, Nat.reduceLeDiff, Nat.zero_le, true_and, and_true, Option.some.injEq, Sum.inl.injEq, Sum.inr.injEq, true_or, or_true, and_self, q_sw]
    refine q_u1 (by decide) (c_isWithin l S x 0 (q_I S 3 (q_M S 0 0 1) 0 - 1)) ?_
    rw [decide_eq_false h]
    exact ⟨fun h => absurd rfl h, fun _ => hX 1 _ _ _ ⟨rfl, rfl, rfl, rfl⟩⟩
theorem c_needCar (l : Launch) (S : qSt) {x : Int32} (h : 0 ≤ x ∧ x ≤ q_I S 3 (q_M S 0 0 1) 1 - 1) : q_Met q_mt l 1 k_X10_needCar 0 [.inr (.inr (0, 0)), .inl x] S (fun _ S' => S' = S) := by
  refine q_meth zoX10_needCar q_fos (Nat.le_of_ble_eq_true rfl) ?_
  intro AT step
  refine step 40 [] 0 _ _ _ ?_
  simp only [q_vcs, q_vcc, q_vl, q_vu, ↓reduceIte, Nat.reduceEqDiff, Bool.false_eq_true, q_isc, q_mk, q_msk, zbX10_needCar, q_pad, q_ent, q_get, q_put, q_nl, q_w, List.cons_append, List.nil_append, q_aks, q_als, Nat.reduceAdd, Nat.reduceLeDiff, Nat.zero_le, true_and, and_true, Option.some.injEq, Sum.inl.injEq, Sum.inr.injEq, true_or, or_true, and_self, q_sw]
  refine q_u1 (by decide) (c_isWithin l S x 0 (q_I S 3 (q_M S 0 0 1) 1 - 1)) ?_
  rw [decide_eq_true h]
  exact ⟨fun _ => rfl, fun h => absurd h (by decide)⟩
theorem c_needCarT (l : Launch) (hl : l.stackTraces = false) (S : qSt) {x : Int32} (h : ¬ (0 ≤ x ∧ x ≤ q_I S 3 (q_M S 0 0 1) 1 - 1)) : q_Thr q_mt l 6 k_X10_needCar 0 [.inr (.inr (0, 0)), .inl x] S (xpN S) := by
  refine q_methT zoX10_needCar q_fos (Nat.le_of_ble_eq_true rfl) (fun b ls st S1 => b = 1 ∧ st = [] ∧ xpN S sNS S1) ?_ ?_
  · intro G q p e R s m args below meth c hq Z b ls st S1 hck hX
    obtain ⟨rfl, rfl, hx⟩ := hX
    cases (show q_mt k_X10_needCar = some (yX10_needCar, cX10_needCar, 2, none) from rfl).symm.trans hq
    exact q_tnew Z hl (Nat.le_refl _) (rx := rxNS) (ix := 13) (by decide +kernel) (by decide +kernel) (by decide +kernel) (by decide +kernel) (by decide) xNS1 xNS2 (sj := 2) (is := 349) (by decide) (by decide +kernel) (by decide +kernel) (by decide +kernel) (by decide +kernel) (by decide +kernel) hx
  · intro AT step hX
    refine step 40 [(1, [true, true])] 0 _ _ _ ?_
    simp only [q_vcs, q_vcc, q_vl, q_vu, ↓reduceIte, Nat.reduceEqDiff, Bool.false_eq_true, q_isc, q_mk, q_msk, zbX10_needCar, q_pad, q_ent, q_get, q_put, q_nl, q_w, List.cons_append, List.nil_append, q_aks, q_als, Nat.reduceAdd, Nat.reduceLeDiff, Nat.zero_le, true_and, and_true, Option.some.injEq, Sum.inl.injEq, Sum.inr.injEq, true_or, or_true, and_self, q_sw]
    refine q_u1 (by decide) (c_isWithin l S x 0 (q_I S 3 (q_M S 0 0 1) 1 - 1)) ?_
    rw [decide_eq_false h]
    exact ⟨fun h => absurd rfl h, fun _ => hX 1 _ _ _ ⟨rfl, rfl, rfl, rfl⟩⟩
