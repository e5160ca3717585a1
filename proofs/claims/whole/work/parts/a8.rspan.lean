/-! The reference's questions: fronts, span, sure -/
def FI (s : FS) (m : Nat) : Prop := (s.1 = 0 ↔ s.2 = none) ∧ s.1 ≤ m
theorem FI_S {v w : Int32} {k i j m : Nat} {s : FS} (h : FI s m) : FI (frS v w k i j s) (m + 1) := by
  unfold frS
  split
  · refine ⟨⟨fun q => by simp at q, fun q => ?_⟩, by have := h.2; dsimp only; omega⟩
    dsimp only at q
    cases hs : s.2 <;> rw [hs] at q <;> cases q
  · exact ⟨h.1, Nat.le_succ_of_le h.2⟩
theorem FI_1 {v w : Int32} {k i m : Nat} {s : FS} (h : FI s m) : ∀ j, FI (fr1 v w k i j s) (m + j)
  | 0 => h
  | j + 1 => FI_S (FI_1 h j)
theorem FI_2 {v w : Int32} {k : Nat} : ∀ i, FI (fr2 v w k i) (i * (k + 1))
  | 0 => ⟨⟨fun _ => rfl, fun _ => rfl⟩, Nat.zero_le _⟩
  | i + 1 => by rw [Nat.succ_mul]; exact FI_1 (FI_2 i) (k + 1)
theorem sps_f (a : AS) (x z m q y c : Int32) : sp_span a x z m q y c = spI a ((1 ≤ z ∧ z ≤ 20) ∧ ((1 ≤ m ∧ m ≤ 60) ∧ (0 ≤ q ∧ q ≤ 16)) ∧ (0 ≤ y ∧ y ≤ 2) ∧ (0 ≤ c ∧ c ≤ nI (aY a 1 0) - 1)) (.inr (snV (sn9 (aY a) (aV a).1 x m.toNatClampNeg q.toNatClampNeg c.toNatClampNeg z.toNatClampNeg) y.toNatClampNeg), a) := spI_cg (by simp only [and_assoc])
theorem i_minL {a b : Nat} (ha : a < 2 ^ 31) (hb : b < 2 ^ 31) : (if nI a < nI b then nI a else nI b) = nI (min a b) := by
  rw [i_min (a := b) (b := a) hb ha, Nat.min_comm]
theorem i_maxM {a b : Nat} (ha : a < 2 ^ 31) (hb : b < 2 ^ 31) : (if nI b < nI a then nI a else nI b) = nI (max a b) := by
  rw [i_max (a := b) (b := a) hb ha, Nat.max_comm]
theorem r_fronts (l : Launch) {S : qSt} {a : AS} {B : Nat} (hR : RF S a) (hO : OKA a B) (k v w y : Int32) : RA l k_X11_fronts [.inr (.inr (40, 0)), .inl k, .inl v, .inl w, .inl y] S (sp_fronts a k v w y) := by
  unfold sp_fronts
  by_cases h2 : (0 ≤ k ∧ k ≤ 9) ∧ (0 ≤ v ∧ v ≤ 40) ∧ (0 ≤ w ∧ w ≤ 40) ∧ (0 ≤ y ∧ y ≤ 2)
  · rw [spI_2 h2]
    obtain ⟨k, hk, rfl⟩ := i_rng (m := 9) (by decide) h2.1.1 h2.1.2
    obtain ⟨n, hn, rfl⟩ := i_rng (m := 2) (by decide) h2.2.2.2.1 h2.2.2.2.2
    rw [i_cl (by omega), i_cl (by omega)]
    have hR0 := hR.th (v := 0)
    have gv := hO.v
    have hM := hR0.1
    have hV := hR0.2.2.2.1.2.1
    have h3 := hO.1.1
    have h6 := hO.1.2.1
    refine RA_s (d := 20) (by decide) hR ?_
    refine q_meth zoX11_fronts q_fos (Nat.le_of_ble_eq_true rfl) ?_
    intro AT step
    have k14 : AT 14 [some (.inr (.inr (40, 0))), some (.inl (nI k)), some (.inl v), some (.inl w), some (.inl (nI n)), some (.inl (nI (fr2 v w k (k + 1)).1)), some (.inl (frF (fr2 v w k (k + 1)))), some (.inl (frT (fr2 v w k (k + 1)))), none, none] [] (q_wI S 40 0 0 0) := by
      refine step 40 [(4, [true, true, true, true, true, true, true, true, true, true]), (5, [true, true, true, true, true, true, true, true, true, false]), (6, [true, true, true, true, true, true, true, true, true, true]), (14, [true, true, true, true, true, true, true, true, false, false])] 14 _ _ _ ?_
      simp only [q_vcs, q_vcc, q_vl, q_vu, ↓reduceIte, Nat.reduceEqDiff, Bool.false_eq_true, q_isc, q_mk, q_msk, zbX11_fronts, q_pad, q_ent, q_get, q_put, q_nl, q_w, List.cons_append, List.nil_append, q_aks, q_als, Nat.reduceAdd, Nat.reduceLeDiff, Nat.zero_le, true_and, and_true, Option.some.injEq, Sum.inl.injEq, Sum.inr.injEq, true_or, or_true, and_self, q_sw]
      rw [nI_z (n := n) (by omega), show (1 : Int32) = nI 1 from rfl, nI_eq (by omega) (by decide)]
      unfold frN
      refine ⟨fun e => ⟨fun e1 => ?_, fun e1 => ?_⟩, fun e => ?_⟩
      · rw [if_neg e, if_neg e1]
      · rw [if_neg e, if_pos e1]
      · rw [if_pos e]
    have k6 : ∀ i, i ≤ k → AT 5 [some (.inr (.inr (40, 0))), some (.inl (nI k)), some (.inl v), some (.inl w), some (.inl (nI n)), some (.inl (nI (fr2 v w k (i + 1)).1)), some (.inl (frF (fr2 v w k (i + 1)))), some (.inl (frT (fr2 v w k (i + 1)))), some (.inl (nI (i + 1))), none] [] (q_wI S 40 0 0 0) → ∀ r j, j + r = k + 1 → AT 6 [some (.inr (.inr (40, 0))), some (.inl (nI k)), some (.inl v), some (.inl w), some (.inl (nI n)), some (.inl (nI (fr1 v w k i j (fr2 v w k i)).1)), some (.inl (frF (fr1 v w k i j (fr2 v w k i)))), some (.inl (frT (fr1 v w k i j (fr2 v w k i)))), some (.inl (nI i)), some (.inl (nI j))] [] (q_wI S 40 0 0 0) := by
      intro i hi h3 r
      induction r with
      | zero =>
        intro j hj
        have hj : j = k + 1 := by omega
        subst hj
        refine step 40 [(4, [true, true, true, true, true, true, true, true, true, true]), (5, [true, true, true, true, true, true, true, true, true, false]), (6, [true, true, true, true, true, true, true, true, true, true]), (14, [true, true, true, true, true, true, true, true, false, false])] 6 _ _ _ ?_
        simp only [q_vcs, q_vcc, q_vl, q_vu, ↓reduceIte, Nat.reduceEqDiff, Bool.false_eq_true, q_isc, q_mk, q_msk, zbX11_fronts, q_pad, q_ent, q_get, q_put, q_nl, q_w, List.cons_append, List.nil_append, q_aks, q_als, Nat.reduceAdd, Nat.reduceLeDiff, Nat.zero_le, true_and, and_true, Option.some.injEq, Sum.inl.injEq, Sum.inr.injEq, true_or, or_true, and_self, q_sw]
        rw [nI_ltI (by omega) (by omega), nI_1]
        exact ⟨fun _ => h3, fun q => absurd (by omega) q⟩
      | succ r ih =>
        intro j hj
        have ih := ih (j + 1) (by omega)
        rw [fr1] at ih
        have hlt := fr1_lt (v := v) (w := w) (k := k) (a := i) (by omega) (fr2_lt (v := v) (w := w) (k := k) (by omega) i (by omega)) j (by omega)
        have hFI := FI_1 (v := v) (w := w) (k := k) (i := i) (FI_2 (v := v) (w := w) (k := k) i) j
        have hmb : i * (k + 1) ≤ 9 * 10 := Nat.mul_le_mul (by omega) (by omega)
        generalize fr1 v w k i j (fr2 v w k i) = s at ih hlt hFI ⊢
        have hs1 := hFI.2
        refine step 40 [(4, [true, true, true, true, true, true, true, true, true, true]), (5, [true, true, true, true, true, true, true, true, true, false]), (6, [true, true, true, true, true, true, true, true, true, true]), (14, [true, true, true, true, true, true, true, true, false, false])] 6 _ _ _ ?_
        simp only [q_vcs, q_vcc, q_vl, q_vu, ↓reduceIte, Nat.reduceEqDiff, Bool.false_eq_true, q_isc, q_mk, q_msk, zbX11_fronts, q_pad, q_ent, q_get, q_put, q_nl, q_w, List.cons_append, List.nil_append, q_aks, q_als, Nat.reduceAdd, Nat.reduceLeDiff, Nat.zero_le, true_and, and_true, Option.some.injEq, Sum.inl.injEq, Sum.inr.injEq, true_or, or_true, and_self, q_sw]
        rw [nI_ltI (by omega) (by omega), nI_1, nI_1]
        refine ⟨fun q => absurd q (by omega), fun _ => ?_⟩
        refine q_u1 (by decide) (c_misBest l _ (nI i) (nI j) v w (n := k) (by omega)) ?_
        unfold frS at ih
        rw [bI_0]
        refine ⟨fun e => ?_, fun e => ?_⟩
        · rw [if_neg (by rw [e]; simp)] at ih
          exact ih
        · have e1 : ibs (nI i) (nI j) v w (k + 1) = true := by simpa using e
          refine q_u1 (by decide) (c_misBest l _ (nI j) (nI i) v w (n := k) (by omega)) ?_
          rw [bI_0]
          refine ⟨fun e2 => ?_, fun e2 => ?_⟩
          · have e2 : ibs (nI j) (nI i) v w (k + 1) = true := by simpa using e2
            rw [if_pos (by rw [e1, e2]; rfl)] at ih
            rw [nI_z (n := s.1) (by omega)]
            cases hs : s.2 with
            | none =>
              rw [hs] at ih
              have e0 := hFI.1.mpr hs
              refine ⟨fun q => absurd e0 q, fun _ => ⟨fun q => absurd e0 q, fun _ => ?_⟩⟩
              refine q_u1 (by decide) (c_mhasBy l _ (nI i) (nI j) v w) ?_
              refine q_u1 (by decide) (c_mhasBy l _ (nI j) (nI i) v w) ?_
              rw [show (10 : Int32) = nI 10 from rfl, pk_mul, nI_add]
              try rw [nI_1]
              exact ih
            | some z =>
              rw [hs] at ih
              have ef : frF s = nI z.1 := by unfold frF; rw [hs]; rfl
              have et : frT s = z.2 := by unfold frT; rw [hs]; rfl
              have e0 : ¬ s.1 = 0 := fun q => by rw [hFI.1.mp q] at hs; cases hs
              rw [ef, et]
              try rw [nI_1]
              exact ⟨fun _ => ⟨fun _ => ih, fun q => absurd q e0⟩, fun q => absurd q e0⟩
          · rw [if_neg (by rw [e2]; simp)] at ih
            exact ih
    have k5 : ∀ r i, i + r = k + 1 → AT 5 [some (.inr (.inr (40, 0))), some (.inl (nI k)), some (.inl v), some (.inl w), some (.inl (nI n)), some (.inl (nI (fr2 v w k i).1)), some (.inl (frF (fr2 v w k i))), some (.inl (frT (fr2 v w k i))), some (.inl (nI i)), none] [] (q_wI S 40 0 0 0) := by
      intro r
      induction r with
      | zero =>
        intro i hi
        have hi : i = k + 1 := by omega
        subst hi
        refine step 40 [(4, [true, true, true, true, true, true, true, true, true, true]), (5, [true, true, true, true, true, true, true, true, true, false]), (6, [true, true, true, true, true, true, true, true, true, true]), (14, [true, true, true, true, true, true, true, true, false, false])] 5 _ _ _ ?_
        simp only [q_vcs, q_vcc, q_vl, q_vu, ↓reduceIte, Nat.reduceEqDiff, Bool.false_eq_true, q_isc, q_mk, q_msk, zbX11_fronts, q_pad, q_ent, q_get, q_put, q_nl, q_w, List.cons_append, List.nil_append, q_aks, q_als, Nat.reduceAdd, Nat.reduceLeDiff, Nat.zero_le, true_and, and_true, Option.some.injEq, Sum.inl.injEq, Sum.inr.injEq, true_or, or_true, and_self, q_sw]
        rw [nI_ltI (by omega) (by omega)]
        exact ⟨fun _ => k14, fun q => absurd (by omega) q⟩
      | succ r ih =>
        intro i hi
        have h4' := k6 i (by omega) (ih (i + 1) (by omega)) (k + 1) 0 (by omega)
        refine step 40 [(4, [true, true, true, true, true, true, true, true, true, true]), (5, [true, true, true, true, true, true, true, true, true, false]), (6, [true, true, true, true, true, true, true, true, true, true]), (14, [true, true, true, true, true, true, true, true, false, false])] 5 _ _ _ ?_
        simp only [q_vcs, q_vcc, q_vl, q_vu, ↓reduceIte, Nat.reduceEqDiff, Bool.false_eq_true, q_isc, q_mk, q_msk, zbX11_fronts, q_pad, q_ent, q_get, q_put, q_nl, q_w, List.cons_append, List.nil_append, q_aks, q_als, Nat.reduceAdd, Nat.reduceLeDiff, Nat.zero_le, true_and, and_true, Option.some.injEq, Sum.inl.injEq, Sum.inr.injEq, true_or, or_true, and_self, q_sw]
        rw [nI_ltI (by omega) (by omega)]
        exact ⟨fun q => absurd q (by omega), fun _ => h4'⟩
    have kc : AT 4 [some (.inr (.inr (40, 0))), some (.inl (nI k)), some (.inl v), some (.inl w), some (.inl (nI n)), none, none, none, none, none] [] (q_wI S 40 0 0 0) := by
      refine step 40 [(4, [true, true, true, true, true, true, true, true, true, true]), (5, [true, true, true, true, true, true, true, true, true, false]), (6, [true, true, true, true, true, true, true, true, true, true]), (14, [true, true, true, true, true, true, true, true, false, false])] 4 _ _ _ ?_
      simp only [q_vcs, q_vcc, q_vl, q_vu, ↓reduceIte, Nat.reduceEqDiff, Bool.false_eq_true, q_isc, q_mk, q_msk, zbX11_fronts, q_pad, q_ent, q_get, q_put, q_nl, q_w, List.cons_append, List.nil_append, q_aks, q_als, Nat.reduceAdd, Nat.reduceLeDiff, Nat.zero_le, true_and, and_true, Option.some.injEq, Sum.inl.injEq, Sum.inr.injEq, true_or, or_true, and_self, q_sw]
      exact k5 (k + 1) 0 (by omega)
    refine step 40 [(4, [true, true, true, true, true, true, true, true, true, true])] 0 _ _ _ ?_
    simp only [q_vcs, q_vcc, q_vl, q_vu, ↓reduceIte, Nat.reduceEqDiff, Bool.false_eq_true, q_isc, q_mk, q_msk, zbX11_fronts, q_pad, q_ent, q_get, q_put, q_nl, q_w, List.cons_append, List.nil_append, q_aks, q_als, Nat.reduceAdd, Nat.reduceLeDiff, Nat.zero_le, true_and, and_true, Option.some.injEq, Sum.inl.injEq, Sum.inr.injEq, true_or, or_true, and_self, q_sw]
    refine q_u1 (by decide) (c_min l _ (nI k) 0 9) ?_
    rw [decide_eq_true h2.1]
    first | refine ⟨fun _ => ?_, fun q => absurd q (by decide)⟩ | refine ⟨fun q => absurd q (by decide), fun _ => ?_⟩
    refine q_u1 (by decide) (c_min l _ v 0 40) ?_
    rw [decide_eq_true h2.2.1]
    first | refine ⟨fun _ => ?_, fun q => absurd q (by decide)⟩ | refine ⟨fun q => absurd q (by decide), fun _ => ?_⟩
    refine q_u1 (by decide) (c_min l _ w 0 40) ?_
    rw [decide_eq_true h2.2.2.1]
    first | refine ⟨fun _ => ?_, fun q => absurd q (by decide)⟩ | refine ⟨fun q => absurd q (by decide), fun _ => ?_⟩
    refine q_u1 (by decide) (c_min l _ (nI n) 0 2) ?_
    rw [decide_eq_true h2.2.2.2]
    first | refine ⟨fun _ => ?_, fun q => absurd q (by decide)⟩ | refine ⟨fun q => absurd q (by decide), fun _ => ?_⟩
    refine q_u1 (by decide) (c_mbN l S (w := 1) (r := 1) (by decide) (by decide)) ?_
    first | refine ⟨fun _ => ?_, fun q => absurd q (by decide)⟩ | refine ⟨fun q => absurd q (by decide), fun _ => ?_⟩
    exact kc
  · rw [spI_1 h2]
    refine RA_i (d := 20) (by decide) hR ?_
    refine q_meth zoX11_fronts q_fos (Nat.le_of_ble_eq_true rfl) ?_
    intro AT step
    refine step 40 [(4, [true, true, true, true, true, true, true, true, true, true])] 0 _ _ _ ?_
    simp only [q_vcs, q_vcc, q_vl, q_vu, ↓reduceIte, Nat.reduceEqDiff, Bool.false_eq_true, q_isc, q_mk, q_msk, zbX11_fronts, q_pad, q_ent, q_get, q_put, q_nl, q_w, List.cons_append, List.nil_append, q_aks, q_als, Nat.reduceAdd, Nat.reduceLeDiff, Nat.zero_le, true_and, and_true, Option.some.injEq, Sum.inl.injEq, Sum.inr.injEq, true_or, or_true, and_self, q_sw]
    refine q_u1 (by decide) (c_min l _ k 0 9) ?_
    by_cases k0 : 0 ≤ k ∧ k ≤ 9
    · rw [decide_eq_true k0]
      first | refine ⟨fun _ => ?_, fun q => absurd q (by decide)⟩ | refine ⟨fun q => absurd q (by decide), fun _ => ?_⟩
      refine q_u1 (by decide) (c_min l _ v 0 40) ?_
      by_cases k1 : 0 ≤ v ∧ v ≤ 40
      · rw [decide_eq_true k1]
        first | refine ⟨fun _ => ?_, fun q => absurd q (by decide)⟩ | refine ⟨fun q => absurd q (by decide), fun _ => ?_⟩
        refine q_u1 (by decide) (c_min l _ w 0 40) ?_
        by_cases k2 : 0 ≤ w ∧ w ≤ 40
        · rw [decide_eq_true k2]
          first | refine ⟨fun _ => ?_, fun q => absurd q (by decide)⟩ | refine ⟨fun q => absurd q (by decide), fun _ => ?_⟩
          refine q_u1 (by decide) (c_min l _ y 0 2) ?_
          rw [decide_eq_false (fun z => h2 ⟨k0, k1, k2, z⟩)]
          first | refine ⟨fun _ => ?_, fun q => absurd q (by decide)⟩ | refine ⟨fun q => absurd q (by decide), fun _ => ?_⟩
          refine q_u1 (by decide) (c_mbY l S (w := 1) (r := 1) (by decide) (by decide)) ?_
          first | refine ⟨fun _ => ?_, fun q => absurd q (by decide)⟩ | refine ⟨fun q => absurd q (by decide), fun _ => ?_⟩
          first | rfl | exact ⟨rfl, rfl⟩ | trivial
        · rw [decide_eq_false k2]
          first | refine ⟨fun _ => ?_, fun q => absurd q (by decide)⟩ | refine ⟨fun q => absurd q (by decide), fun _ => ?_⟩
          refine q_u1 (by decide) (c_mbY l S (w := 1) (r := 1) (by decide) (by decide)) ?_
          first | refine ⟨fun _ => ?_, fun q => absurd q (by decide)⟩ | refine ⟨fun q => absurd q (by decide), fun _ => ?_⟩
          first | rfl | exact ⟨rfl, rfl⟩ | trivial
      · rw [decide_eq_false k1]
        first | refine ⟨fun _ => ?_, fun q => absurd q (by decide)⟩ | refine ⟨fun q => absurd q (by decide), fun _ => ?_⟩
        refine q_u1 (by decide) (c_mbY l S (w := 1) (r := 1) (by decide) (by decide)) ?_
        first | refine ⟨fun _ => ?_, fun q => absurd q (by decide)⟩ | refine ⟨fun q => absurd q (by decide), fun _ => ?_⟩
        first | rfl | exact ⟨rfl, rfl⟩ | trivial
    · rw [decide_eq_false k0]
      first | refine ⟨fun _ => ?_, fun q => absurd q (by decide)⟩ | refine ⟨fun q => absurd q (by decide), fun _ => ?_⟩
      refine q_u1 (by decide) (c_mbY l S (w := 1) (r := 1) (by decide) (by decide)) ?_
      first | refine ⟨fun _ => ?_, fun q => absurd q (by decide)⟩ | refine ⟨fun q => absurd q (by decide), fun _ => ?_⟩
      first | rfl | exact ⟨rfl, rfl⟩ | trivial
theorem r_span (l : Launch) {S : qSt} {a : AS} {B : Nat} (hR : RF S a) (hO : OKA a B) (x z m q y c : Int32) : RA l k_X11_span [.inr (.inr (40, 0)), .inl x, .inl z, .inl m, .inl q, .inl y, .inl c] S (sp_span a x z m q y c) := by
  rw [sps_f]
  by_cases h2 : (1 ≤ z ∧ z ≤ 20) ∧ ((1 ≤ m ∧ m ≤ 60) ∧ (0 ≤ q ∧ q ≤ 16)) ∧ (0 ≤ y ∧ y ≤ 2) ∧ (0 ≤ c ∧ c ≤ nI (aY a 1 0) - 1)
  · rw [spI_2 h2]
    have h69 := hO.1.2.1
    obtain ⟨z, hz, rfl⟩ := i_rng (m := 20) (x := z) (by decide) (Int32.le_trans (by decide) h2.1.1) h2.1.2
    obtain ⟨m, hm, rfl⟩ := i_rng (m := 60) (x := m) (by decide) (Int32.le_trans (by decide) h2.2.1.1.1) h2.2.1.1.2
    obtain ⟨q, hq, rfl⟩ := i_rng (m := 16) (x := q) (by decide) h2.2.1.2.1 h2.2.1.2.2
    obtain ⟨n, hn, rfl⟩ := i_rng (m := 2) (x := y) (by decide) h2.2.2.1.1 h2.2.2.1.2
    obtain ⟨c, hc, rfl⟩ := i_rng1 (m := aY a 1 0) (x := c) (by omega) h2.2.2.2
    rw [i_cl (by omega), i_cl (by omega), i_cl (by omega), i_cl (by omega), i_cl (by omega)]
    have hR0 := hR.th (v := 0)
    have gv := hO.v
    have hM := hR0.1
    have hV := hR0.2.2.2.1.2.1
    have h3 := hO.1.1
    have h6 := hO.1.2.1
    refine RA_k (d := 20) (by decide) hR ?_
    refine q_meth zoX11_span q_fos (Nat.le_of_ble_eq_true rfl) ?_
    intro AT step
    have k5 : ∀ r i S1, i + r = z → KK (q_wI S 40 0 0 0) S1 → AT 5 [some (.inr (.inr (40, 0))), some (.inl x), some (.inl (nI z)), some (.inl (nI m)), some (.inl (nI q)), some (.inl (nI n)), some (.inl (nI c)), some (.inl (oI (sn9 (aY a) (aV a).1 x m q c i).1)), some (.inl (nI (sn9 (aY a) (aV a).1 x m q c i).2.1)), some (.inl (nI (sn9 (aY a) (aV a).1 x m q c i).2.2)), some (.inl (nI i)), none] [] S1 := by
      intro r
      induction r with
      | zero =>
        intro i S1 hi hk
        have hi : i = z := by omega
        subst hi
        refine step 40 [(4, [true, true, true, true, true, true, true, true, true, true, true, true]), (5, [true, true, true, true, true, true, true, true, true, true, true, false]), (7, [true, true, true, true, true, true, true, true, true, true, true, true])] 5 _ _ _ ?_
        simp only [q_vcs, q_vcc, q_vl, q_vu, ↓reduceIte, Nat.reduceEqDiff, Bool.false_eq_true, q_isc, q_mk, q_msk, zbX11_span, q_pad, q_ent, q_get, q_put, q_nl, q_w, List.cons_append, List.nil_append, q_aks, q_als, Nat.reduceAdd, Nat.reduceLeDiff, Nat.zero_le, true_and, and_true, Option.some.injEq, Sum.inl.injEq, Sum.inr.injEq, true_or, or_true, and_self, q_sw]
        rw [nI_leI (by omega) (by omega), nI_z (n := n) (by omega), show (1 : Int32) = nI 1 from rfl, nI_eq (by omega) (by decide)]
        unfold snV
        refine ⟨fun _ => ⟨fun e => ⟨fun e1 => ⟨?_, hk⟩, fun e1 => ⟨?_, hk⟩⟩, fun e => ⟨?_, hk⟩⟩, fun h => absurd (Nat.le_refl _) h⟩
        · rw [if_neg e, if_neg e1]
        · rw [if_neg e, if_pos e1]
        · rw [if_pos e]
      | succ r ih =>
        intro i S1 hi hk
        have hR1 := RF_kk hR0 hk
        have hp := dayn_ok hO.1 q (s := (x + nI i, (aV a).1, 0, 0)) gv.1 m
        have hpl := prs_le (Y := aY a) hp.1
        have hbl := bs_lt hp.1
        have hsl := sn_lt hO.1 gv.1 x m q c i
        refine step 40 [(4, [true, true, true, true, true, true, true, true, true, true, true, true]), (5, [true, true, true, true, true, true, true, true, true, true, true, false]), (7, [true, true, true, true, true, true, true, true, true, true, true, true])] 5 _ _ _ ?_
        simp only [q_vcs, q_vcc, q_vl, q_vu, ↓reduceIte, Nat.reduceEqDiff, Bool.false_eq_true, q_isc, q_mk, q_msk, zbX11_span, q_pad, q_ent, q_get, q_put, q_nl, q_w, List.cons_append, List.nil_append, q_aks, q_als, Nat.reduceAdd, Nat.reduceLeDiff, Nat.zero_le, true_and, and_true, Option.some.injEq, Sum.inl.injEq, Sum.inr.injEq, true_or, or_true, and_self, q_sw]
        rw [nI_leI (by omega) (by omega)]
        refine ⟨fun h => absurd h (by omega), fun _ => ?_⟩
        refine ⟨_, _, (by decide : 4 < 20), c_mdaysBy l S1 hO.1 hR1.1 gv.1 hR1.2.2.2.1.2.1.1 (x + nI i) hq (show m < 2 ^ 20 by omega), fun S2 hd => ?_⟩
        have hk2 := hk.tr hd.kk
        have hR2 := RF_kk hR0 hk2
        have hd1 := hd.2.1
        refine q_u1 (by decide) (c_mpairsIn l S2 hO.1 hR2.1 hp hd1) ?_
        have ih := ih (i + 1) S2 (by omega) hk2
        rw [show (sn9 (aY a) (aV a).1 x m q c (i + 1)).2.1 = max (sn9 (aY a) (aV a).1 x m q c i).2.1 (prs (aY a) (dayn (aY a) q m (x + nI i, (aV a).1, 0, 0)).2.1) from rfl, show (sn9 (aY a) (aV a).1 x m q c (i + 1)).2.2 = (sn9 (aY a) (aV a).1 x m q c i).2.2 + (if (bs (dayn (aY a) q m (x + nI i, (aV a).1, 0, 0)).2.1).testBit c then 1 else 0) from rfl] at ih
        have k7 : ∀ fv : Nat, (sn9 (aY a) (aV a).1 x m q c (i + 1)).1 = some fv → AT 7 [some (.inr (.inr (40, 0))), some (.inl x), some (.inl (nI z)), some (.inl (nI m)), some (.inl (nI q)), some (.inl (nI n)), some (.inl (nI c)), some (.inl (oI (sn9 (aY a) (aV a).1 x m q c i).1)), some (.inl (nI (sn9 (aY a) (aV a).1 x m q c i).2.1)), some (.inl (nI (sn9 (aY a) (aV a).1 x m q c i).2.2)), some (.inl (nI i)), some (.inl (nI (prs (aY a) (dayn (aY a) q m (x + nI i, (aV a).1, 0, 0)).2.1)))] [.inl (nI fv)] S2 := by
          intro fv hfv
          rw [hfv] at ih
          refine step 40 [(4, [true, true, true, true, true, true, true, true, true, true, true, true]), (5, [true, true, true, true, true, true, true, true, true, true, true, false]), (7, [true, true, true, true, true, true, true, true, true, true, true, true])] 7 _ _ _ ?_
          simp only [q_vcs, q_vcc, q_vl, q_vu, ↓reduceIte, Nat.reduceEqDiff, Bool.false_eq_true, q_isc, q_mk, q_msk, zbX11_span, q_pad, q_ent, q_get, q_put, q_nl, q_w, List.cons_append, List.nil_append, q_aks, q_als, Nat.reduceAdd, Nat.reduceLeDiff, Nat.zero_le, true_and, and_true, Option.some.injEq, Sum.inl.injEq, Sum.inr.injEq, true_or, or_true, and_self, q_sw]
          refine q_u1 (by decide) (c_mmore l S2 _ _) ?_
          refine q_u1 (by decide) (c_minsideOf l S2 hO.1 hR2.1 hp hd1) ?_
          refine q_u1 (by decide) (c_mhas l S2 (n := bs (dayn (aY a) q m (x + nI i, (aV a).1, 0, 0)).2.1) (k := c) (by omega) (by omega)) ?_
          rw [i_maxM (a := (sn9 (aY a) (aV a).1 x m q c i).2.1) (by omega) (by omega), bI_0, nI_1]
          refine ⟨fun e => ?_, fun e => ?_⟩
          · rw [if_neg (by rw [e]; simp)] at ih
            rw [show (0 : Int32) = nI 0 from rfl, nI_add]
            exact ih
          · rw [if_pos (by simpa using e)] at ih
            rw [nI_1]
            exact ih
        cases hs : (sn9 (aY a) (aV a).1 x m q c i).1 with
        | none =>
          have e1 : (sn9 (aY a) (aV a).1 x m q c (i + 1)).1 = some (prs (aY a) (dayn (aY a) q m (x + nI i, (aV a).1, 0, 0)).2.1) := by rw [sn9]; dsimp only; rw [hs]
          rw [hs] at k7
          exact ⟨fun h => absurd rfl h, fun _ => k7 _ e1⟩
        | some f =>
          have e1 : (sn9 (aY a) (aV a).1 x m q c (i + 1)).1 = some (min f (prs (aY a) (dayn (aY a) q m (x + nI i, (aV a).1, 0, 0)).2.1)) := by rw [sn9]; dsimp only; rw [hs]
          rw [hs] at k7
          have := hsl.1 f hs
          refine ⟨fun _ => ?_, fun h => absurd h (i_ne1 (n := f) (by omega))⟩
          refine q_u1 (by decide) (c_mless l S2 _ _) ?_
          rw [show oI (some f) = nI f from rfl, i_minL (a := f) (by omega) (by omega)]
          exact k7 _ e1
    have kc : AT 4 [some (.inr (.inr (40, 0))), some (.inl x), some (.inl (nI z)), some (.inl (nI m)), some (.inl (nI q)), some (.inl (nI n)), some (.inl (nI c)), none, none, none, none, none] [] (q_wI S 40 0 0 0) := by
      refine step 40 [(4, [true, true, true, true, true, true, true, true, true, true, true, true]), (5, [true, true, true, true, true, true, true, true, true, true, true, false]), (7, [true, true, true, true, true, true, true, true, true, true, true, true])] 4 _ _ _ ?_
      simp only [q_vcs, q_vcc, q_vl, q_vu, ↓reduceIte, Nat.reduceEqDiff, Bool.false_eq_true, q_isc, q_mk, q_msk, zbX11_span, q_pad, q_ent, q_get, q_put, q_nl, q_w, List.cons_append, List.nil_append, q_aks, q_als, Nat.reduceAdd, Nat.reduceLeDiff, Nat.zero_le, true_and, and_true, Option.some.injEq, Sum.inl.injEq, Sum.inr.injEq, true_or, or_true, and_self, q_sw]
      exact k5 z 0 _ (by omega) KK.rf
    refine step 40 [(4, [true, true, true, true, true, true, true, true, true, true, true, true])] 0 _ _ _ ?_
    simp only [q_vcs, q_vcc, q_vl, q_vu, ↓reduceIte, Nat.reduceEqDiff, Bool.false_eq_true, q_isc, q_mk, q_msk, zbX11_span, q_pad, q_ent, q_get, q_put, q_nl, q_w, List.cons_append, List.nil_append, q_aks, q_als, Nat.reduceAdd, Nat.reduceLeDiff, Nat.zero_le, true_and, and_true, Option.some.injEq, Sum.inl.injEq, Sum.inr.injEq, true_or, or_true, and_self, q_sw]
    refine q_u1 (by decide) (c_min l _ (nI z) 1 20) ?_
    rw [decide_eq_true h2.1]
    first | refine ⟨fun _ => ?_, fun q => absurd q (by decide)⟩ | refine ⟨fun q => absurd q (by decide), fun _ => ?_⟩
    refine q_u1 (by decide) (c_mareDays l _ (nI m) (nI q)) ?_
    rw [decide_eq_true h2.2.1]
    first | refine ⟨fun _ => ?_, fun q => absurd q (by decide)⟩ | refine ⟨fun q => absurd q (by decide), fun _ => ?_⟩
    refine q_u1 (by decide) (c_min l _ (nI n) 0 2) ?_
    rw [decide_eq_true h2.2.2.1]
    first | refine ⟨fun _ => ?_, fun q => absurd q (by decide)⟩ | refine ⟨fun q => absurd q (by decide), fun _ => ?_⟩
    refine q_u1 (by decide) (c_misCar l _ (hR.th (v := 0)).1 (nI c)) ?_
    rw [show decide (0 ≤ (nI c) ∧ (nI c) ≤ nI (aY a 1 0) - 1) = true from decide_eq_true h2.2.2.2]
    first | refine ⟨fun _ => ?_, fun q => absurd q (by decide)⟩ | refine ⟨fun q => absurd q (by decide), fun _ => ?_⟩
    refine q_u1 (by decide) (c_mbN l S (w := 1) (r := 1) (by decide) (by decide)) ?_
    first | refine ⟨fun _ => ?_, fun q => absurd q (by decide)⟩ | refine ⟨fun q => absurd q (by decide), fun _ => ?_⟩
    exact kc
  · rw [spI_1 h2]
    refine RA_i (d := 20) (by decide) hR ?_
    refine q_meth zoX11_span q_fos (Nat.le_of_ble_eq_true rfl) ?_
    intro AT step
    refine step 40 [(4, [true, true, true, true, true, true, true, true, true, true, true, true])] 0 _ _ _ ?_
    simp only [q_vcs, q_vcc, q_vl, q_vu, ↓reduceIte, Nat.reduceEqDiff, Bool.false_eq_true, q_isc, q_mk, q_msk, zbX11_span, q_pad, q_ent, q_get, q_put, q_nl, q_w, List.cons_append, List.nil_append, q_aks, q_als, Nat.reduceAdd, Nat.reduceLeDiff, Nat.zero_le, true_and, and_true, Option.some.injEq, Sum.inl.injEq, Sum.inr.injEq, true_or, or_true, and_self, q_sw]
    refine q_u1 (by decide) (c_min l _ z 1 20) ?_
    by_cases k0 : 1 ≤ z ∧ z ≤ 20
    · rw [decide_eq_true k0]
      first | refine ⟨fun _ => ?_, fun q => absurd q (by decide)⟩ | refine ⟨fun q => absurd q (by decide), fun _ => ?_⟩
      refine q_u1 (by decide) (c_mareDays l _ m q) ?_
      by_cases k1 : (1 ≤ m ∧ m ≤ 60) ∧ (0 ≤ q ∧ q ≤ 16)
      · rw [decide_eq_true k1]
        first | refine ⟨fun _ => ?_, fun q => absurd q (by decide)⟩ | refine ⟨fun q => absurd q (by decide), fun _ => ?_⟩
        refine q_u1 (by decide) (c_min l _ y 0 2) ?_
        by_cases k2 : 0 ≤ y ∧ y ≤ 2
        · rw [decide_eq_true k2]
          first | refine ⟨fun _ => ?_, fun q => absurd q (by decide)⟩ | refine ⟨fun q => absurd q (by decide), fun _ => ?_⟩
          refine q_u1 (by decide) (c_misCar l _ (hR.th (v := 0)).1 c) ?_
          rw [show decide (0 ≤ c ∧ c ≤ nI (aY a 1 0) - 1) = false from decide_eq_false (fun z => h2 ⟨k0, k1, k2, z⟩)]
          first | refine ⟨fun _ => ?_, fun q => absurd q (by decide)⟩ | refine ⟨fun q => absurd q (by decide), fun _ => ?_⟩
          refine q_u1 (by decide) (c_mbY l S (w := 1) (r := 1) (by decide) (by decide)) ?_
          first | refine ⟨fun _ => ?_, fun q => absurd q (by decide)⟩ | refine ⟨fun q => absurd q (by decide), fun _ => ?_⟩
          first | rfl | exact ⟨rfl, rfl⟩ | trivial
        · rw [decide_eq_false k2]
          first | refine ⟨fun _ => ?_, fun q => absurd q (by decide)⟩ | refine ⟨fun q => absurd q (by decide), fun _ => ?_⟩
          refine q_u1 (by decide) (c_mbY l S (w := 1) (r := 1) (by decide) (by decide)) ?_
          first | refine ⟨fun _ => ?_, fun q => absurd q (by decide)⟩ | refine ⟨fun q => absurd q (by decide), fun _ => ?_⟩
          first | rfl | exact ⟨rfl, rfl⟩ | trivial
      · rw [decide_eq_false k1]
        first | refine ⟨fun _ => ?_, fun q => absurd q (by decide)⟩ | refine ⟨fun q => absurd q (by decide), fun _ => ?_⟩
        refine q_u1 (by decide) (c_mbY l S (w := 1) (r := 1) (by decide) (by decide)) ?_
        first | refine ⟨fun _ => ?_, fun q => absurd q (by decide)⟩ | refine ⟨fun q => absurd q (by decide), fun _ => ?_⟩
        first | rfl | exact ⟨rfl, rfl⟩ | trivial
    · rw [decide_eq_false k0]
      first | refine ⟨fun _ => ?_, fun q => absurd q (by decide)⟩ | refine ⟨fun q => absurd q (by decide), fun _ => ?_⟩
      refine q_u1 (by decide) (c_mbY l S (w := 1) (r := 1) (by decide) (by decide)) ?_
      first | refine ⟨fun _ => ?_, fun q => absurd q (by decide)⟩ | refine ⟨fun q => absurd q (by decide), fun _ => ?_⟩
      first | rfl | exact ⟨rfl, rfl⟩ | trivial
