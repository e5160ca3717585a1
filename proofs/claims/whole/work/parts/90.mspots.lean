/-! The reference: days, gifts, spots -/
theorem c_mareDays (l : Launch) (S : qSt) (x y : Int32) : q_Met q_mt l 1 k_X11_areDays 1 [.inl x, .inl y] S (fun r S' => r = some (.inl (bI (decide ((1 ≤ x ∧ x ≤ 60) ∧ (0 ≤ y ∧ y ≤ 16))))) ∧ S' = S) := by
  refine q_meth zoX11_areDays q_fos (Nat.le_of_ble_eq_true rfl) ?_
  intro AT step
  refine step 20 [] 0 _ _ _ ?_
  simp only [q_vcs, q_vcc, q_vl, q_vu, ↓reduceIte, Nat.reduceEqDiff, Bool.false_eq_true, q_isc, q_mk, q_msk, zbX11_areDays, q_pad, q_ent, q_get, q_put, q_nl, q_w, List.cons_append, List.nil_append, q_aks, q_als, Nat.reduceAdd, Nat.reduceLeDiff, Nat.zero_le, true_and, and_true, Option.some.injEq, Sum.inl.injEq, Sum.inr.injEq, true_or, or_true, and_self, q_sw]
  refine q_u1 (by decide) (c_min l S x 1 60) ?_
  rw [bI_0]
  by_cases h1 : (1 ≤ x ∧ x ≤ 60)
  · refine ⟨fun h => absurd h (by simp [h1]), fun _ => ?_⟩
    refine q_u1 (by decide) (c_min l S y 0 16) ?_
    rw [bI_0]
    by_cases h2 : (0 ≤ y ∧ y ≤ 16)
    · refine ⟨fun h => absurd h (by simp [h2]), fun _ => ?_⟩
      simp [h1, h2, bI]; try rfl
    · refine ⟨fun _ => ?_, fun h => absurd (by simp [h2]) h⟩
      simp [h2, bI]; try rfl
  · refine ⟨fun _ => ?_, fun h => absurd (by simp [h1]) h⟩
    simp [h1, bI]; try rfl
def hbI (a b c d : Int32) : Int32 := if a < b then c else if b < a then d - a else 0
theorem c_mhasBy (l : Launch) (S : qSt) (a b c d : Int32) : q_Met q_mt l 0 k_X11_hasBy 1 [.inl a, .inl b, .inl c, .inl d] S (fun r S' => r = some (.inl (hbI a b c d)) ∧ S' = S) := by
  refine q_meth zoX11_hasBy q_fos (Nat.le_of_ble_eq_true rfl) ?_
  intro AT step
  refine step 20 [] 0 _ _ _ ?_
  simp only [q_vcs, q_vcc, q_vl, q_vu, ↓reduceIte, Nat.reduceEqDiff, Bool.false_eq_true, q_isc, q_mk, q_msk, zbX11_hasBy, q_pad, q_ent, q_get, q_put, q_nl, q_w, List.cons_append, List.nil_append, q_aks, q_als, Nat.reduceAdd, Nat.reduceLeDiff, Nat.zero_le, true_and, and_true, Option.some.injEq, Sum.inl.injEq, Sum.inr.injEq, true_or, or_true, and_self, q_sw]
  unfold hbI
  refine ⟨fun h => ⟨fun h2 => ?_, fun h2 => ?_⟩, fun h => ?_⟩
  · rw [if_neg (Int32.not_lt.mpr h), if_neg (Int32.not_lt.mpr h2)]
  · rw [if_neg (Int32.not_lt.mpr h), if_pos (Int32.not_le.mp h2)]
  · rw [if_pos (Int32.not_le.mp h)]
def ibs (a b c d : Int32) (n : Nat) : Bool := (List.range n).all (fun j => decide (hbI (nI j) b c d ≤ hbI a b c d))
theorem c_misBest (l : Launch) (S : qSt) (a b c d : Int32) {n : Nat} (hn : n < 2 ^ 20) : q_Met q_mt l 1 k_X11_isBest 1 [.inl a, .inl b, .inl (nI n), .inl c, .inl d] S (fun r S' => r = some (.inl (bI (ibs a b c d (n + 1)))) ∧ S' = S) := by
  refine q_meth zoX11_isBest q_fos (Nat.le_of_ble_eq_true rfl) ?_
  intro AT step
  have hL : ∀ (k j : Nat), j + k = n + 1 → (List.range' j k).all (fun j => decide (hbI (nI j) b c d ≤ hbI a b c d)) = ibs a b c d (n + 1) → AT 1 [some (.inl a), some (.inl b), some (.inl (nI n)), some (.inl c), some (.inl d), some (.inl (nI j))] [] S := by
    intro k
    induction k with
    | zero =>
      intro j hj hh
      refine step 40 [(1, [true, true, true, true, true, true])] 1 _ _ _ ?_
      simp only [q_vcs, q_vcc, q_vl, q_vu, ↓reduceIte, Nat.reduceEqDiff, Bool.false_eq_true, q_isc, q_mk, q_msk, zbX11_isBest, q_pad, q_ent, q_get, q_put, q_nl, q_w, List.cons_append, List.nil_append, q_aks, q_als, Nat.reduceAdd, Nat.reduceLeDiff, Nat.zero_le, true_and, and_true, Option.some.injEq, Sum.inl.injEq, Sum.inr.injEq, true_or, or_true, and_self, q_sw]
      rw [nI_ltI (by omega) (by omega)]
      refine ⟨fun _ => ?_, fun h => absurd (by omega) h⟩
      rw [← hh]
      first | rfl | exact ⟨rfl, rfl⟩
    | succ k ih =>
      intro j hj hh
      rw [List.range'_succ, List.all_cons] at hh
      refine step 40 [(1, [true, true, true, true, true, true])] 1 _ _ _ ?_
      simp only [q_vcs, q_vcc, q_vl, q_vu, ↓reduceIte, Nat.reduceEqDiff, Bool.false_eq_true, q_isc, q_mk, q_msk, zbX11_isBest, q_pad, q_ent, q_get, q_put, q_nl, q_w, List.cons_append, List.nil_append, q_aks, q_als, Nat.reduceAdd, Nat.reduceLeDiff, Nat.zero_le, true_and, and_true, Option.some.injEq, Sum.inl.injEq, Sum.inr.injEq, true_or, or_true, and_self, q_sw]
      rw [nI_ltI (by omega) (by omega), nI_1]
      refine ⟨fun h => absurd h (by omega), fun _ => ?_⟩
      refine q_u1 (by decide) (c_mhasBy l S (nI j) b c d) ?_
      refine q_u1 (by decide) (c_mhasBy l S a b c d) ?_
      refine ⟨fun h => ?_, fun h => ?_⟩
      · rw [decide_eq_true h, Bool.true_and] at hh
        exact ih (j + 1) (by omega) hh
      · rw [decide_eq_false h, Bool.false_and] at hh
        rw [← hh]
        first | rfl | exact ⟨rfl, rfl⟩
  refine step 40 [(1, [true, true, true, true, true, true])] 0 _ _ _ ?_
  simp only [q_vcs, q_vcc, q_vl, q_vu, ↓reduceIte, Nat.reduceEqDiff, Bool.false_eq_true, q_isc, q_mk, q_msk, zbX11_isBest, q_pad, q_ent, q_get, q_put, q_nl, q_w, List.cons_append, List.nil_append, q_aks, q_als, Nat.reduceAdd, Nat.reduceLeDiff, Nat.zero_le, true_and, and_true, Option.some.injEq, Sum.inl.injEq, Sum.inr.injEq, true_or, or_true, and_self, q_sw]
  refine hL (n + 1) 0 (by omega) ?_
  rw [← List.range_eq_range']
  rfl
theorem c_misOil (l : Launch) (S : qSt) {j set : Nat} {Y : YD} {P : Nat → List Nat} (hY : y_ok Y) (hM : MY S Y) (hP : p_ok Y P) (hR : RW1 S 0 P) (hj : j < 3) (p : Int32) (hs : set < 64) : q_Met q_mt l 5 k_X11_isOil 1 [.inr (.inr (40, 0)), .inl (nI set), .inl (nI j), .inl p] S (fun r S' => r = some (.inl (bI (lk (onp Y P j p.toInt) set))) ∧ S' = S) := by
  refine q_meth zoX11_isOil q_fos (Nat.le_of_ble_eq_true rfl) ?_
  intro AT step
  refine step 20 [] 0 _ _ _ ?_
  simp only [q_vcs, q_vcc, q_vl, q_vu, ↓reduceIte, Nat.reduceEqDiff, Bool.false_eq_true, q_isc, q_mk, q_msk, zbX11_isOil, q_pad, q_ent, q_get, q_put, q_nl, q_w, List.cons_append, List.nil_append, q_aks, q_als, Nat.reduceAdd, Nat.reduceLeDiff, Nat.zero_le, true_and, and_true, Option.some.injEq, Sum.inl.injEq, Sum.inr.injEq, true_or, or_true, and_self, q_sw]
  refine q_u1 (by decide) (c_monPlace l S hY hM hP hR hj p) ?_
  cases ho : onp Y P j p.toInt with
  | none => exact ⟨fun _ => (by first | trivial | rfl | exact ⟨rfl, rfl⟩), fun h => absurd rfl h⟩
  | some c =>
    have hc : c < 6 := (st_row hP.1 hj).2 c (List.mem_reverse.mp (onw_mem ho))
    refine ⟨fun h => absurd h (i_ne1 (by omega)), fun _ => ?_⟩
    refine q_u1 (by decide) (c_mhas l S (n := set) (k := c) (by omega) (by omega)) ?_
    rw [bI_0]
    refine ⟨fun h => ?_, fun h => ?_⟩
    · simp [lk, h, bI]; try rfl
    · simp only [Bool.not_eq_false] at h
      simp [lk, h, bI]; try rfl
/-- the reference's spots told: m lines, line z of place w z, oil or not -/
def MSP (S : qSt) (m : Nat) (w o : Nat → Nat) : Prop := q_I S 40 0 33 = nI m ∧ m ≤ 12 ∧ ∀ z, z < m → q_I S 58 z 0 = nI (w z / 4) ∧ q_I S 58 z 1 = nI (w z % 4) ∧ q_I S 58 z 2 = nI (o z) ∧ w z < 12 ∧ o z < 2
def ilk (Y : YD) (P : Nat → List Nat) (m : Nat) (w o : Nat → Nat) (set : Nat) : Bool := (List.range m).all (fun z => lk (sto Y P (w z)) set == decide (o z = 1))
theorem c_misLeak (l : Launch) (S : qSt) {m set : Nat} {w o : Nat → Nat} {Y : YD} {P : Nat → List Nat} (hY : y_ok Y) (hM : MY S Y) (hP : p_ok Y P) (hR : RW1 S 0 P) (hS : MSP S m w o) (hs : set < 64) : q_Met q_mt l 6 k_X11_isLeak 1 [.inr (.inr (40, 0)), .inl (nI set)] S (fun r S' => r = some (.inl (bI (ilk Y P m w o set))) ∧ S' = S) := by
  refine q_meth zoX11_isLeak q_fos (Nat.le_of_ble_eq_true rfl) ?_
  intro AT step
  obtain ⟨m0, m1, m2⟩ := hS
  have hL : ∀ (k j : Nat), j + k = m → (List.range' j k).all (fun z => lk (sto Y P (w z)) set == decide (o z = 1)) = ilk Y P m w o set → AT 1 [some (.inr (.inr (40, 0))), some (.inl (nI set)), some (.inl (nI j))] [] S := by
    intro k
    induction k with
    | zero =>
      intro j hj hh
      refine step 40 [(1, [true, true, true])] 1 _ _ _ ?_
      simp only [q_vcs, q_vcc, q_vl, q_vu, ↓reduceIte, Nat.reduceEqDiff, Bool.false_eq_true, q_isc, q_mk, q_msk, zbX11_isLeak, q_pad, q_ent, q_get, q_put, q_nl, q_w, List.cons_append, List.nil_append, q_aks, q_als, Nat.reduceAdd, Nat.reduceLeDiff, Nat.zero_le, true_and, and_true, Option.some.injEq, Sum.inl.injEq, Sum.inr.injEq, true_or, or_true, and_self, q_sw]
      rw [m0, nI_leI (by omega) (by omega)]
      refine ⟨fun _ => ?_, fun h => absurd (by omega) h⟩
      rw [← hh]
      first | rfl | exact ⟨rfl, rfl⟩
    | succ k ih =>
      intro j hj hh
      rw [List.range'_succ, List.all_cons] at hh
      obtain ⟨r0, r1, r2, r3, r4⟩ := m2 j (by omega)
      refine step 40 [(1, [true, true, true])] 1 _ _ _ ?_
      simp only [q_vcs, q_vcc, q_vl, q_vu, ↓reduceIte, Nat.reduceEqDiff, Bool.false_eq_true, q_isc, q_mk, q_msk, zbX11_isLeak, q_pad, q_ent, q_get, q_put, q_nl, q_w, List.cons_append, List.nil_append, q_aks, q_als, Nat.reduceAdd, Nat.reduceLeDiff, Nat.zero_le, true_and, and_true, Option.some.injEq, Sum.inl.injEq, Sum.inr.injEq, true_or, or_true, and_self, q_sw]
      rw [m0, nI_leI (by omega) (by omega), i_cl (by omega), show Int32.toNatClampNeg 0 = 0 from rfl, show Int32.toNatClampNeg 1 = 1 from rfl, r0, r1]
      refine ⟨fun h => absurd h (by omega), fun _ => ⟨i_in (by omega) (by decide), i_in (k := 0) (by decide) (by decide), i_in (by omega) (by decide), i_in (k := 1) (by decide) (by decide), ?_⟩⟩
      refine q_u1 (by decide) (c_misOil l S hY hM hP hR (j := w j / 4) (by omega) (nI (w j % 4)) hs) ?_
      have e : lk (onp Y P (w j / 4) (nI (w j % 4)).toInt) set = lk (sto Y P (w j)) set := by
        rw [nI_toInt (by omega)]
        rfl
      rw [e, show Int32.toNatClampNeg 2 = 2 from rfl, r2, nI_1]
      refine ⟨i_in (by omega) (by decide), i_in (k := 2) (by decide) (by decide), ?_⟩
      have go : (lk (sto Y P (w j)) set == decide (o j = 1)) = true → AT 1 [some (.inr (.inr (40, 0))), some (.inl (nI set)), some (.inl (nI (j + 1)))] [] S := by
        intro h
        rw [h, Bool.true_and] at hh
        exact ih (j + 1) (by omega) hh
      have no : (lk (sto Y P (w j)) set == decide (o j = 1)) = false → 0 = bI (ilk Y P m w o set) := by
        intro h
        rw [h, Bool.false_and] at hh
        rw [← hh]
        rfl
      rw [show (1 : Int32) = nI 1 from rfl, nI_eq (by omega) (by decide)]
      clear step ih hh
      have z1 : ¬ (0 : Int32) = nI 1 := by decide
      have z2 : (1 : Int32) = nI 1 := rfl
      have z3 : ¬ nI 1 = (0 : Int32) := by decide
      cases hlk : lk (sto Y P (w j)) set <;> by_cases ho : o j = 1 <;> rw [hlk] at go no <;> simp_all [bI]
  refine step 40 [(1, [true, true, true])] 0 _ _ _ ?_
  simp only [q_vcs, q_vcc, q_vl, q_vu, ↓reduceIte, Nat.reduceEqDiff, Bool.false_eq_true, q_isc, q_mk, q_msk, zbX11_isLeak, q_pad, q_ent, q_get, q_put, q_nl, q_w, List.cons_append, List.nil_append, q_aks, q_als, Nat.reduceAdd, Nat.reduceLeDiff, Nat.zero_le, true_and, and_true, Option.some.injEq, Sum.inl.injEq, Sum.inr.injEq, true_or, or_true, and_self, q_sw]
  refine hL m 0 (by omega) ?_
  rw [← List.range_eq_range']
  rfl
def itd (m : Nat) (w : Nat → Nat) (i : Nat) : Bool := (List.range m).any (fun z => decide (w z = i))
theorem c_misTold (l : Launch) (S : qSt) {m i : Nat} {w o : Nat → Nat} (hS : MSP S m w o) (hi : i < 12) : q_Met q_mt l 0 k_X11_isTold 1 [.inr (.inr (40, 0)), .inl (nI (i / 4)), .inl (nI (i % 4))] S (fun r S' => r = some (.inl (bI (itd m w i))) ∧ S' = S) := by
  refine q_meth zoX11_isTold q_fos (Nat.le_of_ble_eq_true rfl) ?_
  intro AT step
  obtain ⟨m0, m1, m2⟩ := hS
  have hL : ∀ (k j : Nat), j + k = m → (List.range' j k).any (fun z => decide (w z = i)) = itd m w i → AT 1 [some (.inr (.inr (40, 0))), some (.inl (nI (i / 4))), some (.inl (nI (i % 4))), some (.inl (nI j))] [] S := by
    intro k
    induction k with
    | zero =>
      intro j hj hh
      refine step 40 [(1, [true, true, true, true])] 1 _ _ _ ?_
      simp only [q_vcs, q_vcc, q_vl, q_vu, ↓reduceIte, Nat.reduceEqDiff, Bool.false_eq_true, q_isc, q_mk, q_msk, zbX11_isTold, q_pad, q_ent, q_get, q_put, q_nl, q_w, List.cons_append, List.nil_append, q_aks, q_als, Nat.reduceAdd, Nat.reduceLeDiff, Nat.zero_le, true_and, and_true, Option.some.injEq, Sum.inl.injEq, Sum.inr.injEq, true_or, or_true, and_self, q_sw]
      rw [m0, nI_leI (by omega) (by omega)]
      refine ⟨fun _ => ?_, fun h => absurd (by omega) h⟩
      rw [← hh]
      first | rfl | exact ⟨rfl, rfl⟩
    | succ k ih =>
      intro j hj hh
      rw [List.range'_succ, List.any_cons] at hh
      obtain ⟨r0, r1, r2, r3, r4⟩ := m2 j (by omega)
      refine step 40 [(1, [true, true, true, true])] 1 _ _ _ ?_
      simp only [q_vcs, q_vcc, q_vl, q_vu, ↓reduceIte, Nat.reduceEqDiff, Bool.false_eq_true, q_isc, q_mk, q_msk, zbX11_isTold, q_pad, q_ent, q_get, q_put, q_nl, q_w, List.cons_append, List.nil_append, q_aks, q_als, Nat.reduceAdd, Nat.reduceLeDiff, Nat.zero_le, true_and, and_true, Option.some.injEq, Sum.inl.injEq, Sum.inr.injEq, true_or, or_true, and_self, q_sw]
      rw [m0, nI_leI (by omega) (by omega), i_cl (by omega), show Int32.toNatClampNeg 0 = 0 from rfl, show Int32.toNatClampNeg 1 = 1 from rfl, r0, r1, nI_1, nI_eq (by omega) (by omega), nI_eq (by omega) (by omega)]
      have go : w j ≠ i → AT 1 [some (.inr (.inr (40, 0))), some (.inl (nI (i / 4))), some (.inl (nI (i % 4))), some (.inl (nI (j + 1)))] [] S := by
        intro h
        rw [decide_eq_false h, Bool.false_or] at hh
        exact ih (j + 1) (by omega) hh
      refine ⟨fun h => absurd h (by omega), fun _ => ⟨i_in (by omega) (by decide), i_in (k := 0) (by decide) (by decide), fun ha => ?_, fun ha => ⟨i_in (by omega) (by decide), i_in (k := 1) (by decide) (by decide), fun hb => ?_, fun hb => ?_⟩⟩⟩
      · exact go (by omega)
      · exact go (by omega)
      · rw [decide_eq_true (show w j = i by omega), Bool.true_or] at hh
        rw [← hh]
        first | rfl | exact ⟨rfl, rfl⟩
  refine step 40 [(1, [true, true, true, true])] 0 _ _ _ ?_
  simp only [q_vcs, q_vcc, q_vl, q_vu, ↓reduceIte, Nat.reduceEqDiff, Bool.false_eq_true, q_isc, q_mk, q_msk, zbX11_isTold, q_pad, q_ent, q_get, q_put, q_nl, q_w, List.cons_append, List.nil_append, q_aks, q_als, Nat.reduceAdd, Nat.reduceLeDiff, Nat.zero_le, true_and, and_true, Option.some.injEq, Sum.inl.injEq, Sum.inr.injEq, true_or, or_true, and_self, q_sw]
  refine hL m 0 (by omega) ?_
  rw [← List.range_eq_range']
  rfl
/-- the class's masks and the reference's list tell the same lines -/
def SPM (m : Nat) (w o : Nat → Nat) (ln oi : Nat) : Prop := (∀ z, z < m → w z < 12 ∧ ln.testBit (w z) = true ∧ oi.testBit (w z) = decide (o z = 1)) ∧ ∀ i, i < 12 → ln.testBit i = true → ∃ z, z < m ∧ w z = i
theorem ilk_isR {m ln oi set : Nat} {w o : Nat → Nat} {Y : YD} {P : Nat → List Nat} (h : SPM m w o ln oi) : ilk Y P m w o set = isR Y P ln oi set := by
  rw [Bool.eq_iff_iff]
  unfold ilk isR
  simp only [List.all_eq_true, List.mem_range, Bool.or_eq_true, Bool.not_eq_true']
  refine ⟨fun a i hi => ?_, fun a z hz => ?_⟩
  · cases hl : ln.testBit i with
    | false => exact Or.inl rfl
    | true =>
      obtain ⟨z, hz, e⟩ := h.2 i hi hl
      have := a z hz
      rw [← (h.1 z hz).2.2, e] at this
      exact Or.inr this
  · obtain ⟨h1, h2, h3⟩ := h.1 z hz
    rcases a (w z) h1 with b | b
    · rw [h2] at b; cases b
    · rw [← h3]; exact b
theorem itd_ln {m ln oi i : Nat} {w o : Nat → Nat} (h : SPM m w o ln oi) (hi : i < 12) : itd m w i = ln.testBit i := by
  rw [Bool.eq_iff_iff]
  unfold itd
  simp only [List.any_eq_true, List.mem_range, decide_eq_true_eq]
  refine ⟨fun ⟨z, hz, e⟩ => by rw [← e]; exact (h.1 z hz).2.1, fun a => ?_⟩
  obtain ⟨z, hz, e⟩ := h.2 i hi a
  exact ⟨z, hz, e⟩
