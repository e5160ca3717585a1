/-! The reference: images -/
def img (S : qSt) (z : Nat) : Int32 := if z = 0 then q_I S 40 0 34 else if z < 30 then q_I S 65 0 (z - 1) else q_I S 65 (4 + (z - 30) / 29) ((z - 30) % 29)
def wim (S : qSt) (z : Nat) (r : Int32) : qSt := if z = 0 then q_wI S 40 0 34 r else if z < 30 then q_wI S 65 0 (z - 1) r else q_wI S 65 (4 + (z - 30) / 29) ((z - 30) % 29) r
theorem img_wim (S : qSt) (r : Int32) (z y : Nat) : img (wim S z r) y = if y = z then r else img S y := by
  unfold img wim
  by_cases h1 : z = 0
  · simp only [if_pos h1, q_I_wI]
    by_cases h2 : y = 0
    · rw [if_pos h2, if_pos (by simp), if_pos (by omega)]
    · rw [if_neg h2, if_neg (show ¬ y = z by omega), if_neg h2]
      by_cases h3 : y < 30
      · rw [if_pos h3, if_pos h3, if_neg (by omega)]
      · rw [if_neg h3, if_neg h3, if_neg (by omega)]
  · simp only [if_neg h1]
    by_cases h2 : z < 30
    · simp only [if_pos h2, q_I_wI]
      by_cases h3 : y = 0
      · rw [if_pos h3, if_neg (by omega), if_neg (by omega), if_pos h3]
      · rw [if_neg h3, if_neg h3]
        by_cases h4 : y < 30
        · rw [if_pos h4, if_pos h4]
          by_cases h5 : y = z
          · rw [if_pos h5, if_pos (by subst h5; simp)]
          · rw [if_neg h5, if_neg (by omega)]
        · rw [if_neg h4, if_neg h4, if_neg (by omega), if_neg (by omega)]
    · simp only [if_neg h2, q_I_wI]
      by_cases h3 : y = 0
      · rw [if_pos h3, if_neg (by omega), if_neg (by omega), if_pos h3]
      · rw [if_neg h3, if_neg h3]
        by_cases h4 : y < 30
        · rw [if_pos h4, if_pos h4, if_neg (by omega), if_neg (by omega)]
        · rw [if_neg h4, if_neg h4]
          by_cases h5 : y = z
          · rw [if_pos h5, if_pos (by subst h5; simp)]
          · rw [if_neg h5, if_neg (by omega)]
def pv9 (S : qSt) (i z : Nat) (b : Bool) (v : Int32) : Int32 := if b = true then q_I S 68 i z else v
def ps9 (S : qSt) (i z : Nat) (b : Bool) (v : Int32) : qSt := q_wI (if b = true then S else q_wI S 68 i z v) 40 0 37 (nI (z + 1))
theorem c_mputs (l : Launch) (S : qSt) {i z : Nat} {b : Bool} {v : Int32} (hz : z < 494) (hs : q_I S 40 0 37 = nI z) : q_Met q_mt l 0 k_X11_puts 1 [.inr (.inr (40, 0)), .inr (.inr (68, i)), .inl v, .inl (bI b)] S (fun r S' => r = some (.inl (pv9 S i z b v)) ∧ S' = ps9 S i z b v) := by
  refine q_meth zoX11_puts q_fos (Nat.le_of_ble_eq_true rfl) ?_
  intro AT step
  refine step 20 [] 0 _ _ _ ?_
  simp only [q_vcs, q_vcc, q_vl, q_vu, ↓reduceIte, Nat.reduceEqDiff, Bool.false_eq_true, q_isc, q_mk, q_msk, zbX11_puts, q_pad, q_ent, q_get, q_put, q_nl, q_w, List.cons_append, List.nil_append, q_aks, q_als, Nat.reduceAdd, Nat.reduceLeDiff, Nat.zero_le, true_and, and_true, Option.some.injEq, Sum.inl.injEq, Sum.inr.injEq, true_or, or_true, and_self, q_sw]
  rw [hs, bI_0]
  unfold pv9 ps9
  cases b with
  | false =>
    have e1 : q_I (q_wI S 68 i (nI z).toNatClampNeg v) 40 0 37 = nI z := by rw [q_I_wI, if_neg (by omega)]; exact hs
    refine ⟨fun h => absurd rfl h, fun _ => ?_⟩
    rw [e1, nI_1, q_I_wI, if_pos ⟨rfl, rfl, rfl⟩, i_m1, i_cl (by omega)]
    refine ⟨i_in (by omega) (by decide), i_in (by omega) (by decide), ?_⟩
    simp [q_I_wI]
  | true =>
    refine ⟨fun _ => ?_, fun h => (by cases h)⟩
    rw [nI_1, q_I_wI, if_pos ⟨rfl, rfl, rfl⟩, i_m1, i_cl (by omega)]
    refine ⟨i_in (by omega) (by decide), ?_⟩
    simp [q_I_wI]
/-- so far put: z cells -/
def JP (S : qSt) (i : Nat) (b : Bool) (z : Nat) (S1 : qSt) : Prop := q_I S1 40 0 37 = nI z ∧ (∀ y, y < 494 → (y < z → q_I S1 68 i y = (if b = true then q_I S 68 i y else img S y) ∧ img S1 y = (if b = true then q_I S 68 i y else img S y)) ∧ (z ≤ y → q_I S1 68 i y = q_I S 68 i y ∧ img S1 y = img S y)) ∧ (∀ j, j ≠ 34 → j ≠ 37 → q_I S1 40 0 j = q_I S 40 0 j) ∧ fr (fun f k => f = 40 ∨ (f = 65 ∧ (k = 0 ∨ 4 ≤ k)) ∨ (f = 68 ∧ k = i)) S S1
theorem JP.nx {S S1 : qSt} {i z : Nat} {b : Bool} (h : JP S i b z S1) (hz : z < 494) : JP S i b (z + 1) (wim (ps9 S1 i z b (img S1 z)) z (pv9 S1 i z b (img S1 z))) := by
  obtain ⟨j0, j1, j2, j3⟩ := h
  have hp : ∀ y, img (ps9 S1 i z b (img S1 z)) y = img S1 y := fun y => by
    unfold ps9 img
    cases b <;> simp [q_I_wI]
  have hw : ∀ y (S2 : qSt) r, q_I (wim S2 z r) 68 i y = q_I S2 68 i y := fun y S2 r => by
    unfold wim
    split
    · rw [q_I_wI, if_neg (by omega)]
    · split
      · rw [q_I_wI, if_neg (by omega)]
      · rw [q_I_wI, if_neg (by omega)]
  have hw4 : ∀ j (S2 : qSt) r, j ≠ 34 → q_I (wim S2 z r) 40 0 j = q_I S2 40 0 j := fun j S2 r hj => by
    unfold wim
    split
    · rw [q_I_wI, if_neg (by omega)]
    · split
      · rw [q_I_wI, if_neg (by omega)]
      · rw [q_I_wI, if_neg (by omega)]
  have hc : ∀ y, q_I (ps9 S1 i z b (img S1 z)) 68 i y = if y = z ∧ b = false then img S1 z else q_I S1 68 i y := fun y => by
    unfold ps9
    rw [q_I_wI, if_neg (by omega)]
    cases b with
    | true => simp
    | false =>
      simp only [Bool.false_eq_true, if_false, q_I_wI]
      by_cases e : y = z
      · rw [if_pos (by simp [e]), if_pos (by simp [e])]
      · rw [if_neg (by omega), if_neg (by omega)]
  refine ⟨?_, fun y hy => ⟨fun hyz => ?_, fun hyz => ?_⟩, fun j h1 h2 => ?_, ?_⟩
  · rw [hw4 37 _ _ (by decide)]
    unfold ps9
    rw [q_I_wI, if_pos ⟨rfl, rfl, rfl⟩]
  · rw [hw, hc, img_wim, hp]
    by_cases e : y = z
    · subst e
      have a := (j1 y hy).2 (Nat.le_refl _)
      rw [if_pos rfl]
      unfold pv9
      cases b with
      | true => simp [a.1]
      | false => simp [a.2]
    · rw [if_neg (by omega), if_neg e]
      exact (j1 y hy).1 (by omega)
  · rw [hw, hc, img_wim, hp, if_neg (by omega), if_neg (by omega)]
    exact (j1 y hy).2 (by omega)
  · rw [hw4 j _ _ h1]
    unfold ps9
    rw [q_I_wI, if_neg (by omega)]
    cases b with
    | true => exact j2 j h1 h2
    | false =>
      simp only [Bool.false_eq_true, if_false]
      rw [q_I_wI, if_neg (by omega)]
      exact j2 j h1 h2
  · have hf2 : fr (fun f k => f = 40 ∨ (f = 65 ∧ (k = 0 ∨ 4 ≤ k)) ∨ (f = 68 ∧ k = i)) S (ps9 S1 i z b (img S1 z)) := by
      unfold ps9
      cases b with
      | true => exact fr.wI j3 (Or.inl rfl)
      | false => exact fr.wI (fr.wI j3 (Or.inr (Or.inr ⟨rfl, rfl⟩))) (Or.inl rfl)
    unfold wim
    split
    · exact fr.wI hf2 (Or.inl rfl)
    · split
      · exact fr.wI hf2 (Or.inr (Or.inl ⟨rfl, Or.inl rfl⟩))
      · exact fr.wI hf2 (Or.inr (Or.inl ⟨rfl, Or.inr (by omega)⟩))
theorem c_mputsAll (l : Launch) (S : qSt) {i : Nat} {b : Bool} : q_Met q_mt l 1 k_X11_putsAll 0 [.inr (.inr (40, 0)), .inr (.inr (68, i)), .inl (bI b)] S (fun _ S' => JP S i b 494 S') := by
  refine q_meth zoX11_putsAll q_fos (Nat.le_of_ble_eq_true rfl) ?_
  intro AT step
  have hI : ∀ (r k j : Nat) (S1 : qSt), r < 16 → (∀ S2, JP S i b (30 + 29 * (r + 1)) S2 → AT 3 [some (.inr (.inr (40, 0))), some (.inr (.inr (68, i))), some (.inl (bI b)), some (.inl (nI (r + 1))), none] [] S2) → j + k = 29 → JP S i b (30 + 29 * r + j) S1 → AT 4 [some (.inr (.inr (40, 0))), some (.inr (.inr (68, i))), some (.inl (bI b)), some (.inl (nI r)), some (.inl (nI j))] [] S1 := by
    intro r k
    induction k with
    | zero =>
      intro j S1 hr hx hj hJ
      refine step 40 [(1, [true, true, true, true, false]), (3, [true, true, true, true, false]), (4, [true, true, true, true, true])] 4 _ _ _ ?_
      simp only [q_vcs, q_vcc, q_vl, q_vu, ↓reduceIte, Nat.reduceEqDiff, Bool.false_eq_true, q_isc, q_mk, q_msk, zbX11_putsAll, q_pad, q_ent, q_get, q_put, q_nl, q_w, List.cons_append, List.nil_append, q_aks, q_als, Nat.reduceAdd, Nat.reduceLeDiff, Nat.zero_le, true_and, and_true, Option.some.injEq, Sum.inl.injEq, Sum.inr.injEq, true_or, or_true, and_self, q_sw]
      rw [show (29 : Int32) = nI 29 from rfl, nI_leI (by decide) (by omega), nI_1]
      refine ⟨fun _ => ?_, fun h => absurd (by omega) h⟩
      exact hx S1 (by rw [show 30 + 29 * (r + 1) = 30 + 29 * r + j by omega]; exact hJ)
    | succ k ih =>
      intro j S1 hr hx hj hJ
      have hn := hJ.nx (by omega)
      have ei : img S1 (30 + 29 * r + j) = q_I S1 65 (4 + r) j := by
        unfold img
        rw [if_neg (by omega), if_neg (by omega), show (30 + 29 * r + j - 30) / 29 = r by omega, show (30 + 29 * r + j - 30) % 29 = j by omega]
      have ew : ∀ S2 v, wim S2 (30 + 29 * r + j) v = q_wI S2 65 (4 + r) j v := fun S2 v => by
        unfold wim
        rw [if_neg (by omega), if_neg (by omega), show (30 + 29 * r + j - 30) / 29 = r by omega, show (30 + 29 * r + j - 30) % 29 = j by omega]
      rw [ew, ei] at hn
      refine step 40 [(1, [true, true, true, true, false]), (3, [true, true, true, true, false]), (4, [true, true, true, true, true])] 4 _ _ _ ?_
      simp only [q_vcs, q_vcc, q_vl, q_vu, ↓reduceIte, Nat.reduceEqDiff, Bool.false_eq_true, q_isc, q_mk, q_msk, zbX11_putsAll, q_pad, q_ent, q_get, q_put, q_nl, q_w, List.cons_append, List.nil_append, q_aks, q_als, Nat.reduceAdd, Nat.reduceLeDiff, Nat.zero_le, true_and, and_true, Option.some.injEq, Sum.inl.injEq, Sum.inr.injEq, true_or, or_true, and_self, q_sw]
      rw [show (29 : Int32) = nI 29 from rfl, nI_leI (by decide) (by omega), nI_1, i_cl (by omega), i_cl (by omega)]
      refine ⟨fun h => absurd h (by omega), fun _ => ⟨i_in (by omega) (by decide), i_in (by omega) (by decide), i_in (by omega) (by decide), ?_⟩⟩
      refine q_u1 (by decide) (c_mputs l S1 (i := i) (z := 30 + 29 * r + j) (b := b) (v := q_I S1 65 (4 + r) j) (by omega) hJ.1) ?_
      refine ⟨i_in (by omega) (by decide), ?_⟩
      rw [nI_1]
      exact ih (j + 1) _ hr hx (by omega) hn
  have hO : ∀ (k r : Nat) (S1 : qSt), r + k = 16 → JP S i b (30 + 29 * r) S1 → AT 3 [some (.inr (.inr (40, 0))), some (.inr (.inr (68, i))), some (.inl (bI b)), some (.inl (nI r)), none] [] S1 := by
    intro k
    induction k with
    | zero =>
      intro r S1 hr hJ
      refine step 40 [(1, [true, true, true, true, false]), (3, [true, true, true, true, false]), (4, [true, true, true, true, true])] 3 _ _ _ ?_
      simp only [q_vcs, q_vcc, q_vl, q_vu, ↓reduceIte, Nat.reduceEqDiff, Bool.false_eq_true, q_isc, q_mk, q_msk, zbX11_putsAll, q_pad, q_ent, q_get, q_put, q_nl, q_w, List.cons_append, List.nil_append, q_aks, q_als, Nat.reduceAdd, Nat.reduceLeDiff, Nat.zero_le, true_and, and_true, Option.some.injEq, Sum.inl.injEq, Sum.inr.injEq, true_or, or_true, and_self, q_sw]
      rw [show (16 : Int32) = nI 16 from rfl, nI_leI (by decide) (by omega)]
      refine ⟨fun _ => ?_, fun h => absurd (by omega) h⟩
      rw [show r = 16 by omega] at hJ
      exact hJ
    | succ k ih =>
      intro r S1 hr hJ
      refine step 40 [(1, [true, true, true, true, false]), (3, [true, true, true, true, false]), (4, [true, true, true, true, true])] 3 _ _ _ ?_
      simp only [q_vcs, q_vcc, q_vl, q_vu, ↓reduceIte, Nat.reduceEqDiff, Bool.false_eq_true, q_isc, q_mk, q_msk, zbX11_putsAll, q_pad, q_ent, q_get, q_put, q_nl, q_w, List.cons_append, List.nil_append, q_aks, q_als, Nat.reduceAdd, Nat.reduceLeDiff, Nat.zero_le, true_and, and_true, Option.some.injEq, Sum.inl.injEq, Sum.inr.injEq, true_or, or_true, and_self, q_sw]
      rw [show (16 : Int32) = nI 16 from rfl, nI_leI (by decide) (by omega)]
      refine ⟨fun h => absurd h (by omega), fun _ => ?_⟩
      exact hI r 29 0 S1 (by omega) (fun S2 h2 => ih (r + 1) S2 (by omega) h2) (by omega) hJ
  have hN : ∀ (k j : Nat) (S1 : qSt), j + k = 29 → JP S i b (1 + j) S1 → AT 1 [some (.inr (.inr (40, 0))), some (.inr (.inr (68, i))), some (.inl (bI b)), some (.inl (nI j)), none] [] S1 := by
    intro k
    induction k with
    | zero =>
      intro j S1 hj hJ
      refine step 40 [(1, [true, true, true, true, false]), (3, [true, true, true, true, false]), (4, [true, true, true, true, true])] 1 _ _ _ ?_
      simp only [q_vcs, q_vcc, q_vl, q_vu, ↓reduceIte, Nat.reduceEqDiff, Bool.false_eq_true, q_isc, q_mk, q_msk, zbX11_putsAll, q_pad, q_ent, q_get, q_put, q_nl, q_w, List.cons_append, List.nil_append, q_aks, q_als, Nat.reduceAdd, Nat.reduceLeDiff, Nat.zero_le, true_and, and_true, Option.some.injEq, Sum.inl.injEq, Sum.inr.injEq, true_or, or_true, and_self, q_sw]
      rw [show (29 : Int32) = nI 29 from rfl, nI_leI (by decide) (by omega)]
      refine ⟨fun _ => ?_, fun h => absurd (by omega) h⟩
      refine hO 16 0 S1 (by omega) ?_
      rw [show j = 29 by omega] at hJ
      exact hJ
    | succ k ih =>
      intro j S1 hj hJ
      have hn := hJ.nx (by omega)
      have ei : img S1 (1 + j) = q_I S1 65 0 j := by
        unfold img
        rw [if_neg (by omega), if_pos (by omega), show 1 + j - 1 = j by omega]
      have ew : ∀ S2 v, wim S2 (1 + j) v = q_wI S2 65 0 j v := fun S2 v => by
        unfold wim
        rw [if_neg (by omega), if_pos (by omega), show 1 + j - 1 = j by omega]
      rw [ew, ei] at hn
      refine step 40 [(1, [true, true, true, true, false]), (3, [true, true, true, true, false]), (4, [true, true, true, true, true])] 1 _ _ _ ?_
      simp only [q_vcs, q_vcc, q_vl, q_vu, ↓reduceIte, Nat.reduceEqDiff, Bool.false_eq_true, q_isc, q_mk, q_msk, zbX11_putsAll, q_pad, q_ent, q_get, q_put, q_nl, q_w, List.cons_append, List.nil_append, q_aks, q_als, Nat.reduceAdd, Nat.reduceLeDiff, Nat.zero_le, true_and, and_true, Option.some.injEq, Sum.inl.injEq, Sum.inr.injEq, true_or, or_true, and_self, q_sw]
      rw [show (29 : Int32) = nI 29 from rfl, nI_leI (by decide) (by omega), nI_1, i_cl (by omega)]
      refine ⟨fun h => absurd h (by omega), fun _ => ⟨i_in (by omega) (by decide), ?_⟩⟩
      refine q_u1 (by decide) (c_mputs l S1 (i := i) (z := 1 + j) (b := b) (v := q_I S1 65 0 j) (by omega) hJ.1) ?_
      refine ⟨i_in (by omega) (by decide), ?_⟩
      exact ih (j + 1) _ (by omega) (by rw [show 1 + (j + 1) = 1 + j + 1 by omega]; exact hn)
  have hJ0 : JP S i b 0 (q_wI S 40 0 37 0) := by
    refine ⟨by rw [q_I_wI, if_pos ⟨rfl, rfl, rfl⟩]; rfl, fun y hy => ⟨fun h => absurd h (by omega), fun _ => ⟨by rw [q_I_wI, if_neg (by omega)], ?_⟩⟩, fun j h1 h2 => by rw [q_I_wI, if_neg (by omega)], fr.wI fr.rf (Or.inl rfl)⟩
    unfold img
    simp [q_I_wI]
  have hn := hJ0.nx (by omega)
  have ei : img (q_wI S 40 0 37 0) 0 = q_I (q_wI S 40 0 37 0) 40 0 34 := by unfold img; rw [if_pos rfl]
  have ew : ∀ S2 v, wim S2 0 v = q_wI S2 40 0 34 v := fun S2 v => by unfold wim; rw [if_pos rfl]
  rw [ew, ei] at hn
  refine step 40 [(1, [true, true, true, true, false]), (3, [true, true, true, true, false]), (4, [true, true, true, true, true])] 0 _ _ _ ?_
  simp only [q_vcs, q_vcc, q_vl, q_vu, ↓reduceIte, Nat.reduceEqDiff, Bool.false_eq_true, q_isc, q_mk, q_msk, zbX11_putsAll, q_pad, q_ent, q_get, q_put, q_nl, q_w, List.cons_append, List.nil_append, q_aks, q_als, Nat.reduceAdd, Nat.reduceLeDiff, Nat.zero_le, true_and, and_true, Option.some.injEq, Sum.inl.injEq, Sum.inr.injEq, true_or, or_true, and_self, q_sw]
  refine q_u1 (by decide) (c_mputs l (q_wI S 40 0 37 0) (i := i) (z := 0) (b := b) (v := q_I (q_wI S 40 0 37 0) 40 0 34) (by omega) hJ0.1) ?_
  exact hN 29 0 _ (by omega) hn
