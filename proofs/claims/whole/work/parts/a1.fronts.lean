/-! The class's questions with loops: fronts, span -/
theorem i_lt_irr {x y : Int32} (h : x = y) : ¬ x < y := by rw [h]; exact fun q => Int32.lt_irrefl q
theorem c_hasByBid (l : Launch) (S : qSt) (x y v w : Int32) : q_Met q_mt l 0 k_X10_hasByBid 1 [.inl x, .inl y, .inl v, .inl w] S (fun r S' => r = some (.inl (hbI x y v w)) ∧ S' = S) := by
  refine q_meth zoX10_hasByBid q_fos (Nat.le_of_ble_eq_true rfl) ?_
  intro AT step
  refine step 40 [] 0 _ _ _ ?_
  simp only [q_vcs, q_vcc, q_vl, q_vu, ↓reduceIte, Nat.reduceEqDiff, Bool.false_eq_true, q_isc, q_mk, q_msk, zbX10_hasByBid, q_pad, q_ent, q_get, q_put, q_nl, q_w, List.cons_append, List.nil_append, q_aks, q_als, Nat.reduceAdd, Nat.reduceLeDiff, Nat.zero_le, true_and, and_true, Option.some.injEq, Sum.inl.injEq, Sum.inr.injEq, true_or, or_true, and_self, q_sw]
  unfold hbI
  refine ⟨fun h => ⟨fun h2 => ?_, fun h2 => ?_⟩, fun h => ?_⟩
  · rw [if_neg (Int32.not_lt.mpr h2), if_pos (Int32.lt_of_le_of_ne h2 (fun e => h e.symm))]
  · rw [if_pos (Int32.not_le.mp h2)]
  · rw [if_neg (i_lt_irr h), if_neg (i_lt_irr h.symm)]
theorem c_isBestC (l : Launch) (S : qSt) (x y v w : Int32) {n : Nat} (hn : n < 2 ^ 20) : q_Met q_mt l 1 k_X10_isBest 1 [.inl x, .inl y, .inl (nI n), .inl v, .inl w] S (fun r S' => r = some (.inl (bI (ibs x y v w (n + 1)))) ∧ S' = S) := by
  refine q_meth zoX10_isBest q_fos (Nat.le_of_ble_eq_true rfl) ?_
  intro AT step
  have hL : ∀ r i, i + r = n + 1 → (∀ j, j < i → hbI (nI j) y v w ≤ hbI x y v w) → AT 1 [some (.inl x), some (.inl y), some (.inl (nI n)), some (.inl v), some (.inl w), some (.inl (hbI x y v w)), some (.inl (nI i))] [] S := by
    intro r
    induction r with
    | zero =>
      intro i hi hj
      have e : ibs x y v w (n + 1) = true := by
        unfold ibs
        rw [List.all_eq_true]
        intro j hjm
        exact decide_eq_true (hj j (by have := List.mem_range.mp hjm; omega))
      refine step 40 [(1, [true, true, true, true, true, true, true])] 1 _ _ _ ?_
      simp only [q_vcs, q_vcc, q_vl, q_vu, ↓reduceIte, Nat.reduceEqDiff, Bool.false_eq_true, q_isc, q_mk, q_msk, zbX10_isBest, q_pad, q_ent, q_get, q_put, q_nl, q_w, List.cons_append, List.nil_append, q_aks, q_als, Nat.reduceAdd, Nat.reduceLeDiff, Nat.zero_le, true_and, and_true, Option.some.injEq, Sum.inl.injEq, Sum.inr.injEq, true_or, or_true, and_self, q_sw]
      rw [nI_ltI (by omega) (by omega), e]
      exact ⟨fun _ => rfl, fun h => absurd (by omega) h⟩
    | succ r ih =>
      intro i hi hj
      refine step 40 [(1, [true, true, true, true, true, true, true])] 1 _ _ _ ?_
      simp only [q_vcs, q_vcc, q_vl, q_vu, ↓reduceIte, Nat.reduceEqDiff, Bool.false_eq_true, q_isc, q_mk, q_msk, zbX10_isBest, q_pad, q_ent, q_get, q_put, q_nl, q_w, List.cons_append, List.nil_append, q_aks, q_als, Nat.reduceAdd, Nat.reduceLeDiff, Nat.zero_le, true_and, and_true, Option.some.injEq, Sum.inl.injEq, Sum.inr.injEq, true_or, or_true, and_self, q_sw]
      rw [nI_ltI (by omega) (by omega), nI_1]
      refine ⟨fun h => absurd h (by omega), fun _ => ?_⟩
      refine q_u1 (by decide) (c_hasByBid l S (nI i) y v w) ?_
      refine ⟨fun h => ?_, fun h => ?_⟩
      · refine ih (i + 1) (by omega) (fun j hj1 => ?_)
        by_cases e : j = i
        · rw [e]; exact h
        · exact hj j (by omega)
      · have e : ibs x y v w (n + 1) = false := by
          unfold ibs
          rw [List.all_eq_false]
          exact ⟨i, List.mem_range.mpr (by omega), by rw [decide_eq_false h]; decide⟩
        rw [e]
        exact ⟨rfl, rfl⟩
  refine step 40 [(1, [true, true, true, true, true, true, true])] 0 _ _ _ ?_
  simp only [q_vcs, q_vcc, q_vl, q_vu, ↓reduceIte, Nat.reduceEqDiff, Bool.false_eq_true, q_isc, q_mk, q_msk, zbX10_isBest, q_pad, q_ent, q_get, q_put, q_nl, q_w, List.cons_append, List.nil_append, q_aks, q_als, Nat.reduceAdd, Nat.reduceLeDiff, Nat.zero_le, true_and, and_true, Option.some.injEq, Sum.inl.injEq, Sum.inr.injEq, true_or, or_true, and_self, q_sw]
  refine q_u1 (by decide) (c_hasByBid l S x y v w) ?_
  exact hL (n + 1) 0 (by omega) (fun j hj => by omega)
abbrev FS : Type := Nat × Option (Nat × Int32)
def frS (v w : Int32) (k a b : Nat) (s : FS) : FS := if (ibs (nI a) (nI b) v w (k + 1) && ibs (nI b) (nI a) v w (k + 1)) = true then (s.1 + 1, match s.2 with | none => some (10 * a + b, hbI (nI a) (nI b) v w + hbI (nI b) (nI a) v w) | some x => some x) else s
def fr1 (v w : Int32) (k a : Nat) : Nat → FS → FS
  | 0, s => s
  | j + 1, s => frS v w k a j (fr1 v w k a j s)
def fr2 (v w : Int32) (k : Nat) : Nat → FS
  | 0 => (0, none)
  | i + 1 => fr1 v w k i (k + 1) (fr2 v w k i)
def frF (s : FS) : Int32 := oI (s.2.map Prod.fst)
def frT (s : FS) : Int32 := (s.2.map Prod.snd).getD 0
def frN (s : FS) (n : Nat) : Int32 := if n = 0 then nI s.1 else if n = 1 then frF s else frT s
noncomputable def sp_fronts (a : AS) (k v w y : Int32) : SPR := spI a ((0 ≤ k ∧ k ≤ 9) ∧ (0 ≤ v ∧ v ≤ 40) ∧ (0 ≤ w ∧ w ≤ 40) ∧ (0 ≤ y ∧ y ≤ 2)) (.inr (frN (fr2 v w k.toNatClampNeg (k.toNatClampNeg + 1)) y.toNatClampNeg), a)
theorem frS_lt {v w : Int32} {k a b : Nat} (ha : a < 100) (hb : b < 100) {s : FS} (h : ∀ x, s.2 = some x → x.1 < 2000) : ∀ x, (frS v w k a b s).2 = some x → x.1 < 2000 := by
  intro x hx
  unfold frS at hx
  split at hx
  · cases hs : s.2 with
    | none => rw [hs] at hx; cases hx; show 10 * a + b < 2000; omega
    | some z => rw [hs] at hx; cases hx; exact h _ hs
  · exact h x hx
theorem fr1_lt {v w : Int32} {k a : Nat} (ha : a < 100) {s : FS} (h : ∀ x, s.2 = some x → x.1 < 2000) : ∀ j, j ≤ 100 → ∀ x, (fr1 v w k a j s).2 = some x → x.1 < 2000 := by
  intro j
  induction j with
  | zero => intro _; exact h
  | succ j ih => intro hj; exact frS_lt ha (by omega) (ih (by omega))
theorem fr2_lt {v w : Int32} {k : Nat} (hk : k < 99) : ∀ i, i ≤ 100 → ∀ x, (fr2 v w k i).2 = some x → x.1 < 2000 := by
  intro i
  induction i with
  | zero => intro _ x hx; cases hx
  | succ i ih => intro hi; exact fr1_lt (by omega) (ih (by omega)) (k + 1) (by omega)
theorem a_fronts (l : Launch) (hl : l.stackTraces = false) {S : qSt} {t : Nat} {a : AS} {B : Nat} (hC : CL S t a) (hO : OKA a B) (ht : t + 25 < 65536) (k v w y : Int32) : CA l k_X10_fronts [.inr (.inr (0, 0)), .inl k, .inl v, .inl w, .inl y] S t nmI (sp_fronts a k v w y) := by
  unfold sp_fronts
  by_cases h : (0 ≤ k ∧ k ≤ 9) ∧ (0 ≤ v ∧ v ≤ 40) ∧ (0 ≤ w ∧ w ≤ 40) ∧ (0 ≤ y ∧ y ≤ 2)
  · rw [spI_2 h]
    obtain ⟨h1, h2, h3, h4⟩ := h
    obtain ⟨k, hk, rfl⟩ := i_rng (m := 9) (by decide) h1.1 h1.2
    obtain ⟨n, hn, rfl⟩ := i_rng (m := 2) (by decide) h4.1 h4.2
    rw [i_cl (by omega), i_cl (by omega)]
    refine CA_s (d := 9) (by decide) hC ?_
    refine q_meth zoX10_fronts q_fos (Nat.le_of_ble_eq_true rfl) ?_
    intro AT step
    have k8 : AT 8 [some (.inr (.inr (0, 0))), some (.inl (nI k)), some (.inl v), some (.inl w), some (.inl (nI n)), some (.inl (nI (fr2 v w k (k + 1)).1)), some (.inl (frF (fr2 v w k (k + 1)))), some (.inl (frT (fr2 v w k (k + 1)))), none, none] [] S := by
      refine step 40 [(2, [true, true, true, true, true, false, false, false, false, false]), (3, [true, true, true, true, true, true, true, true, true, false]), (4, [true, true, true, true, true, true, true, true, true, true]), (8, [true, true, true, true, true, true, true, true, false, false])] 8 _ _ _ ?_
      simp only [q_vcs, q_vcc, q_vl, q_vu, ↓reduceIte, Nat.reduceEqDiff, Bool.false_eq_true, q_isc, q_mk, q_msk, zbX10_fronts, q_pad, q_ent, q_get, q_put, q_nl, q_w, List.cons_append, List.nil_append, q_aks, q_als, Nat.reduceAdd, Nat.reduceLeDiff, Nat.zero_le, true_and, and_true, Option.some.injEq, Sum.inl.injEq, Sum.inr.injEq, true_or, or_true, and_self, q_sw]
      rw [show (0 : Int32) = nI 0 from rfl, show (1 : Int32) = nI 1 from rfl, nI_eq (by omega) (by decide), nI_eq (by omega) (by decide)]
      unfold frN
      refine ⟨fun e => ⟨fun e1 => ?_, fun e1 => ?_⟩, fun e => ?_⟩
      · rw [if_neg e, if_neg e1]
      · rw [if_neg e, if_pos e1]
      · rw [if_pos e]
    have k4 : ∀ i, i ≤ k → AT 3 [some (.inr (.inr (0, 0))), some (.inl (nI k)), some (.inl v), some (.inl w), some (.inl (nI n)), some (.inl (nI (fr2 v w k (i + 1)).1)), some (.inl (frF (fr2 v w k (i + 1)))), some (.inl (frT (fr2 v w k (i + 1)))), some (.inl (nI (i + 1))), none] [] S → ∀ r j, j + r = k + 1 → AT 4 [some (.inr (.inr (0, 0))), some (.inl (nI k)), some (.inl v), some (.inl w), some (.inl (nI n)), some (.inl (nI (fr1 v w k i j (fr2 v w k i)).1)), some (.inl (frF (fr1 v w k i j (fr2 v w k i)))), some (.inl (frT (fr1 v w k i j (fr2 v w k i)))), some (.inl (nI i)), some (.inl (nI j))] [] S := by
      intro i hi h3 r
      induction r with
      | zero =>
        intro j hj
        have hj : j = k + 1 := by omega
        subst hj
        refine step 40 [(2, [true, true, true, true, true, false, false, false, false, false]), (3, [true, true, true, true, true, true, true, true, true, false]), (4, [true, true, true, true, true, true, true, true, true, true]), (8, [true, true, true, true, true, true, true, true, false, false])] 4 _ _ _ ?_
        simp only [q_vcs, q_vcc, q_vl, q_vu, ↓reduceIte, Nat.reduceEqDiff, Bool.false_eq_true, q_isc, q_mk, q_msk, zbX10_fronts, q_pad, q_ent, q_get, q_put, q_nl, q_w, List.cons_append, List.nil_append, q_aks, q_als, Nat.reduceAdd, Nat.reduceLeDiff, Nat.zero_le, true_and, and_true, Option.some.injEq, Sum.inl.injEq, Sum.inr.injEq, true_or, or_true, and_self, q_sw]
        rw [nI_ltI (by omega) (by omega), nI_1]
        exact ⟨fun _ => h3, fun q => absurd (by omega) q⟩
      | succ r ih =>
        intro j hj
        have ih := ih (j + 1) (by omega)
        rw [fr1] at ih
        have hlt := fr1_lt (v := v) (w := w) (k := k) (a := i) (by omega) (fr2_lt (v := v) (w := w) (k := k) (by omega) i (by omega)) j (by omega)
        generalize fr1 v w k i j (fr2 v w k i) = s at ih hlt ⊢
        refine step 40 [(2, [true, true, true, true, true, false, false, false, false, false]), (3, [true, true, true, true, true, true, true, true, true, false]), (4, [true, true, true, true, true, true, true, true, true, true]), (8, [true, true, true, true, true, true, true, true, false, false])] 4 _ _ _ ?_
        simp only [q_vcs, q_vcc, q_vl, q_vu, ↓reduceIte, Nat.reduceEqDiff, Bool.false_eq_true, q_isc, q_mk, q_msk, zbX10_fronts, q_pad, q_ent, q_get, q_put, q_nl, q_w, List.cons_append, List.nil_append, q_aks, q_als, Nat.reduceAdd, Nat.reduceLeDiff, Nat.zero_le, true_and, and_true, Option.some.injEq, Sum.inl.injEq, Sum.inr.injEq, true_or, or_true, and_self, q_sw]
        rw [nI_ltI (by omega) (by omega), nI_1, nI_1]
        refine ⟨fun q => absurd q (by omega), fun _ => ?_⟩
        refine q_u1 (by decide) (c_isBestC l S (nI i) (nI j) v w (n := k) (by omega)) ?_
        unfold frS at ih
        rw [bI_0]
        refine ⟨fun e => ?_, fun e => ?_⟩
        · rw [if_neg (by rw [e]; simp)] at ih
          exact ih
        · have e1 : ibs (nI i) (nI j) v w (k + 1) = true := by simpa using e
          refine q_u1 (by decide) (c_isBestC l S (nI j) (nI i) v w (n := k) (by omega)) ?_
          rw [bI_0]
          refine ⟨fun e2 => ?_, fun e2 => ?_⟩
          · have e2 : ibs (nI j) (nI i) v w (k + 1) = true := by simpa using e2
            rw [if_pos (by rw [e1, e2]; rfl)] at ih
            cases hs : s.2 with
            | none =>
              rw [hs] at ih
              have ef : frF s = -1 := by unfold frF; rw [hs]; rfl
              rw [ef]
              refine ⟨fun q => absurd rfl q, fun _ => ?_⟩
              refine q_u1 (by decide) (c_hasByBid l S (nI i) (nI j) v w) ?_
              refine q_u1 (by decide) (c_hasByBid l S (nI j) (nI i) v w) ?_
              rw [show (10 : Int32) = nI 10 from rfl, pk_mul, nI_add]
              try rw [nI_1]
              exact ih
            | some z =>
              rw [hs] at ih
              have ef : frF s = nI z.1 := by unfold frF; rw [hs]; rfl
              have et : frT s = z.2 := by unfold frT; rw [hs]; rfl
              have hz := hlt z hs
              rw [ef, et]
              try rw [nI_1]
              exact ⟨fun _ => ih, fun q => absurd q (i_ne1 (n := z.1) (by omega))⟩
          · rw [if_neg (by rw [e2]; simp)] at ih
            exact ih
    have k3 : ∀ r i, i + r = k + 1 → AT 3 [some (.inr (.inr (0, 0))), some (.inl (nI k)), some (.inl v), some (.inl w), some (.inl (nI n)), some (.inl (nI (fr2 v w k i).1)), some (.inl (frF (fr2 v w k i))), some (.inl (frT (fr2 v w k i))), some (.inl (nI i)), none] [] S := by
      intro r
      induction r with
      | zero =>
        intro i hi
        have hi : i = k + 1 := by omega
        subst hi
        refine step 40 [(2, [true, true, true, true, true, false, false, false, false, false]), (3, [true, true, true, true, true, true, true, true, true, false]), (4, [true, true, true, true, true, true, true, true, true, true]), (8, [true, true, true, true, true, true, true, true, false, false])] 3 _ _ _ ?_
        simp only [q_vcs, q_vcc, q_vl, q_vu, ↓reduceIte, Nat.reduceEqDiff, Bool.false_eq_true, q_isc, q_mk, q_msk, zbX10_fronts, q_pad, q_ent, q_get, q_put, q_nl, q_w, List.cons_append, List.nil_append, q_aks, q_als, Nat.reduceAdd, Nat.reduceLeDiff, Nat.zero_le, true_and, and_true, Option.some.injEq, Sum.inl.injEq, Sum.inr.injEq, true_or, or_true, and_self, q_sw]
        rw [nI_ltI (by omega) (by omega)]
        exact ⟨fun _ => k8, fun q => absurd (by omega) q⟩
      | succ r ih =>
        intro i hi
        have h4' := k4 i (by omega) (ih (i + 1) (by omega)) (k + 1) 0 (by omega)
        refine step 40 [(2, [true, true, true, true, true, false, false, false, false, false]), (3, [true, true, true, true, true, true, true, true, true, false]), (4, [true, true, true, true, true, true, true, true, true, true]), (8, [true, true, true, true, true, true, true, true, false, false])] 3 _ _ _ ?_
        simp only [q_vcs, q_vcc, q_vl, q_vu, ↓reduceIte, Nat.reduceEqDiff, Bool.false_eq_true, q_isc, q_mk, q_msk, zbX10_fronts, q_pad, q_ent, q_get, q_put, q_nl, q_w, List.cons_append, List.nil_append, q_aks, q_als, Nat.reduceAdd, Nat.reduceLeDiff, Nat.zero_le, true_and, and_true, Option.some.injEq, Sum.inl.injEq, Sum.inr.injEq, true_or, or_true, and_self, q_sw]
        rw [nI_ltI (by omega) (by omega)]
        exact ⟨fun q => absurd q (by omega), fun _ => h4'⟩
    have k2 : AT 2 [some (.inr (.inr (0, 0))), some (.inl (nI k)), some (.inl v), some (.inl w), some (.inl (nI n)), none, none, none, none, none] [.inl 1, .inr (.inr (0, 0))] S := by
      refine step 40 [(2, [true, true, true, true, true, false, false, false, false, false]), (3, [true, true, true, true, true, true, true, true, true, false]), (4, [true, true, true, true, true, true, true, true, true, true]), (8, [true, true, true, true, true, true, true, true, false, false])] 2 _ _ _ ?_
      simp only [q_vcs, q_vcc, q_vl, q_vu, ↓reduceIte, Nat.reduceEqDiff, Bool.false_eq_true, q_isc, q_mk, q_msk, zbX10_fronts, q_pad, q_ent, q_get, q_put, q_nl, q_w, List.cons_append, List.nil_append, q_aks, q_als, Nat.reduceAdd, Nat.reduceLeDiff, Nat.zero_le, true_and, and_true, Option.some.injEq, Sum.inl.injEq, Sum.inr.injEq, true_or, or_true, and_self, q_sw]
      refine q_u0 (by decide) (c_need1 l S) ?_
      exact k3 (k + 1) 0 (by omega)
    refine step 40 [(2, [true, true, true, true, true, false, false, false, false, false]), (3, [true, true, true, true, true, true, true, true, true, false]), (4, [true, true, true, true, true, true, true, true, true, true]), (8, [true, true, true, true, true, true, true, true, false, false])] 0 _ _ _ ?_
    simp only [q_vcs, q_vcc, q_vl, q_vu, ↓reduceIte, Nat.reduceEqDiff, Bool.false_eq_true, q_isc, q_mk, q_msk, zbX10_fronts, q_pad, q_ent, q_get, q_put, q_nl, q_w, List.cons_append, List.nil_append, q_aks, q_als, Nat.reduceAdd, Nat.reduceLeDiff, Nat.zero_le, true_and, and_true, Option.some.injEq, Sum.inl.injEq, Sum.inr.injEq, true_or, or_true, and_self, q_sw]
    refine q_u1 (by decide) (c_isWithin l S (nI k) 0 9) ?_
    rw [decide_eq_true h1]
    refine ⟨fun q => absurd q (by decide), fun _ => ?_⟩
    refine q_u1 (by decide) (c_isWithin l S v 0 40) ?_
    rw [decide_eq_true h2]
    refine ⟨fun q => absurd q (by decide), fun _ => ?_⟩
    refine q_u1 (by decide) (c_isWithin l S w 0 40) ?_
    rw [decide_eq_true h3]
    refine ⟨fun q => absurd q (by decide), fun _ => ?_⟩
    refine q_u1 (by decide) (c_isWithin l S (nI n) 0 2) ?_
    rw [decide_eq_true h4]
    refine ⟨fun q => absurd q (by decide), fun _ => ?_⟩
    exact k2
  · rw [spI_1 h]
    refine CA_x (d := 7) (by decide) ?_
    refine q_methC zoX10_fronts (Nat.le_of_ble_eq_true rfl) ?_
    intro AT step hX
    have hn := h
    have go := fun ls => hX 2 ls [.inl 0, .inr (.inr (0, 0))] S ⟨_, _, _, _, _, _, _, _, _, _, _, _, _, zbX10_fronts.2.2.1, rfl, Nat.le_of_ble_eq_true rfl, Nat.le_of_ble_eq_true rfl, by decide, c_needX l hl hC nmI 1 rfl⟩
    refine step 40 [(2, [true, true, true, true, true, false, false, false, false, false])] 0 _ _ _ ?_
    simp only [q_vcs, q_vcc, q_vl, q_vu, ↓reduceIte, Nat.reduceEqDiff, Bool.false_eq_true, q_isc, q_mk, q_msk, zbX10_fronts, q_pad, q_ent, q_get, q_put, q_nl, q_w, List.cons_append, List.nil_append, q_aks, q_als, Nat.reduceAdd, Nat.reduceLeDiff, Nat.zero_le, true_and, and_true, Option.some.injEq, Sum.inl.injEq, Sum.inr.injEq, true_or, or_true, and_self, q_sw]
    refine q_u1 (by decide) (c_isWithin l S k 0 9) ?_
    by_cases k0 : 0 ≤ k ∧ k ≤ 9
    · rw [decide_eq_true k0]
      refine ⟨fun q => absurd q (by decide), fun _ => ?_⟩
      refine q_u1 (by decide) (c_isWithin l S v 0 40) ?_
      by_cases k1 : 0 ≤ v ∧ v ≤ 40
      · rw [decide_eq_true k1]
        refine ⟨fun q => absurd q (by decide), fun _ => ?_⟩
        refine q_u1 (by decide) (c_isWithin l S w 0 40) ?_
        by_cases k2 : 0 ≤ w ∧ w ≤ 40
        · rw [decide_eq_true k2]
          refine ⟨fun q => absurd q (by decide), fun _ => ?_⟩
          refine q_u1 (by decide) (c_isWithin l S y 0 2) ?_
          rw [decide_eq_false (fun z => hn ⟨k0, k1, k2, z⟩)]
          exact ⟨fun _ => go _, fun q => absurd rfl q⟩
        · rw [decide_eq_false k2]
          exact ⟨fun _ => go _, fun q => absurd rfl q⟩
      · rw [decide_eq_false k1]
        exact ⟨fun _ => go _, fun q => absurd rfl q⟩
    · rw [decide_eq_false k0]
      exact ⟨fun _ => go _, fun q => absurd rfl q⟩
def sn9 (Y : YD) (P : Nat → List Nat) (x : Int32) (m q c : Nat) : Nat → Option Nat × Nat × Nat
  | 0 => (none, 0, 0)
  | i + 1 => (some (match (sn9 Y P x m q c i).1 with | none => prs Y (dayn Y q m (x + nI i, P, 0, 0)).2.1 | some f => min f (prs Y (dayn Y q m (x + nI i, P, 0, 0)).2.1)), max (sn9 Y P x m q c i).2.1 (prs Y (dayn Y q m (x + nI i, P, 0, 0)).2.1), (sn9 Y P x m q c i).2.2 + if (bs (dayn Y q m (x + nI i, P, 0, 0)).2.1).testBit c then 1 else 0)
def snV (s : Option Nat × Nat × Nat) (n : Nat) : Int32 := if n = 0 then oI s.1 else if n = 1 then nI s.2.1 else nI s.2.2
noncomputable def sp_span (a : AS) (x z m q y c : Int32) : SPR := spI a (((1 ≤ z ∧ z ≤ 20) ∧ (1 ≤ m ∧ m ≤ 60) ∧ (0 ≤ q ∧ q ≤ 16)) ∧ (0 ≤ y ∧ y ≤ 2) ∧ (0 ≤ c ∧ c ≤ nI (aY a 1 0) - 1)) (.inr (snV (sn9 (aY a) (aV a).1 x m.toNatClampNeg q.toNatClampNeg c.toNatClampNeg z.toNatClampNeg) y.toNatClampNeg), a)
theorem sn_lt {Y : YD} (hY : y_ok Y) {P : Nat → List Nat} (hP : p_ok Y P) (x : Int32) (m q c : Nat) : ∀ i, (∀ f, (sn9 Y P x m q c i).1 = some f → f ≤ 108) ∧ (sn9 Y P x m q c i).2.1 ≤ 108 := by
  intro i
  induction i with
  | zero => exact ⟨(fun f e => by cases e), Nat.zero_le _⟩
  | succ i ih =>
    have hp := prs_le (Y := Y) (dayn_ok hY q (s := (x + nI i, P, 0, 0)) hP m).1
    rw [sn9]
    refine ⟨fun f e => ?_, ?_⟩
    · cases e
      cases h : (sn9 Y P x m q c i).1 with
      | none => exact hp
      | some f => exact Nat.le_trans (Nat.min_le_right _ _) hp
    · exact Nat.max_le.mpr ⟨ih.2, hp⟩
theorem a_span (l : Launch) (hl : l.stackTraces = false) {S : qSt} {t : Nat} {a : AS} {B : Nat} (hC : CL S t a) (hO : OKA a B) (ht : t + 25 < 65536) (x z m q y c : Int32) : CA l k_X10_span [.inr (.inr (0, 0)), .inl x, .inl z, .inl m, .inl q, .inl y, .inl c] S t nmI (sp_span a x z m q y c) := by
  unfold sp_span
  by_cases h1 : (1 ≤ z ∧ z ≤ 20) ∧ (1 ≤ m ∧ m ≤ 60) ∧ (0 ≤ q ∧ q ≤ 16)
  · by_cases h2 : (0 ≤ y ∧ y ≤ 2) ∧ (0 ≤ c ∧ c ≤ nI (aY a 1 0) - 1)
    · rw [spI_2 ⟨h1, h2⟩]
      have hH := hC.2.2.2.1
      have hV := hH.2.2 (aW a) (Nat.le_refl _)
      have hY := hC.1.2.2.2
      have gv := hO.v
      have h39 := hO.1.1
      have h6 := hO.1.2.1
      obtain ⟨z, hz, rfl⟩ := i_rng (m := 20) (x := z) (by decide) (Int32.le_trans (by decide) h1.1.1) h1.1.2
      obtain ⟨m, hm, rfl⟩ := i_rng (m := 60) (x := m) (by decide) (Int32.le_trans (by decide) h1.2.1.1) h1.2.1.2
      obtain ⟨q, hq, rfl⟩ := i_rng (m := 16) (x := q) (by decide) h1.2.2.1 h1.2.2.2
      obtain ⟨n, hn, rfl⟩ := i_rng (m := 2) (x := y) (by decide) h2.1.1 h2.1.2
      obtain ⟨c, hc, rfl⟩ := i_rng1 (m := aY a 1 0) (x := c) (by omega) h2.2
      rw [i_cl (by omega), i_cl (by omega), i_cl (by omega), i_cl (by omega), i_cl (by omega)]
      refine CA_r (d := 9) (by decide) ?_
      refine q_meth zoX10_span q_fos (Nat.le_of_ble_eq_true rfl) ?_
      intro AT step
      have k5 : ∀ r i S1, i + r = z → CL S1 t a → fr Fcl S S1 → AT 5 [some (.inr (.inr (0, 0))), some (.inl x), some (.inl (nI z)), some (.inl (nI m)), some (.inl (nI q)), some (.inl (nI n)), some (.inl (nI c)), some (.inl (oI (sn9 (aY a) (aV a).1 x m q c i).1)), some (.inl (nI (sn9 (aY a) (aV a).1 x m q c i).2.1)), some (.inl (nI (sn9 (aY a) (aV a).1 x m q c i).2.2)), some (.inl (nI i)), none] [] S1 := by
        intro r
        induction r with
        | zero =>
          intro i S1 hi hC1 hf
          have hi : i = z := by omega
          subst hi
          refine step 40 [(2, [true, true, true, true, true, true, true, false, false, false, false, false]), (4, [true, true, true, true, true, true, true, false, false, false, false, false]), (5, [true, true, true, true, true, true, true, true, true, true, true, false]), (7, [true, true, true, true, true, true, true, true, true, true, true, true])] 5 _ _ _ ?_
          simp only [q_vcs, q_vcc, q_vl, q_vu, ↓reduceIte, Nat.reduceEqDiff, Bool.false_eq_true, q_isc, q_mk, q_msk, zbX10_span, q_pad, q_ent, q_get, q_put, q_nl, q_w, List.cons_append, List.nil_append, q_aks, q_als, Nat.reduceAdd, Nat.reduceLeDiff, Nat.zero_le, true_and, and_true, Option.some.injEq, Sum.inl.injEq, Sum.inr.injEq, true_or, or_true, and_self, q_sw]
          rw [nI_leI (by omega) (by omega), show (0 : Int32) = nI 0 from rfl, show (1 : Int32) = nI 1 from rfl, nI_eq (by omega) (by decide), nI_eq (by omega) (by decide)]
          have fin : (∃ t', t' ≤ t + 25 ∧ CL S1 t' a) ∧ fr Fcl S S1 := ⟨⟨t, by omega, hC1⟩, hf⟩
          unfold snV
          refine ⟨fun _ => ⟨fun e => ⟨fun e1 => ⟨?_, fin⟩, fun e1 => ⟨?_, fin⟩⟩, fun e => ⟨?_, fin⟩⟩, fun h => absurd (Nat.le_refl _) h⟩
          · rw [if_neg e, if_neg e1]
          · rw [if_neg e, if_pos e1]
          · rw [if_pos e]
        | succ r ih =>
          intro i S1 hi hC1 hf
          have hH1 := hC1.2.2.2.1
          have hV1 := hH1.2.2 (aW a) (Nat.le_refl _)
          have hp := dayn_ok hO.1 q (s := (x + nI i, (aV a).1, 0, 0)) gv.1 m
          have hpl := prs_le (Y := aY a) hp.1
          have hbl := bs_lt hp.1
          have hsl := sn_lt hO.1 gv.1 x m q c i
          refine step 40 [(2, [true, true, true, true, true, true, true, false, false, false, false, false]), (4, [true, true, true, true, true, true, true, false, false, false, false, false]), (5, [true, true, true, true, true, true, true, true, true, true, true, false]), (7, [true, true, true, true, true, true, true, true, true, true, true, true])] 5 _ _ _ ?_
          simp only [q_vcs, q_vcc, q_vl, q_vu, ↓reduceIte, Nat.reduceEqDiff, Bool.false_eq_true, q_isc, q_mk, q_msk, zbX10_span, q_pad, q_ent, q_get, q_put, q_nl, q_w, List.cons_append, List.nil_append, q_aks, q_als, Nat.reduceAdd, Nat.reduceLeDiff, Nat.zero_le, true_and, and_true, Option.some.injEq, Sum.inl.injEq, Sum.inr.injEq, true_or, or_true, and_self, q_sw]
          rw [nI_leI (by omega) (by omega)]
          refine ⟨fun h => absurd h (by omega), fun _ => ?_⟩
          refine q_u29 (by decide) (c_latest l S1 hH1) ?_
          rw [hV1.1]
          refine ⟨_, _, (by decide : 5 < 9), c_daysRun l S1 (i := 0) hO.1 hC1.1.2.2.2 gv.1 (x + nI i) hq (by omega), fun S2 hd => ?_⟩
          obtain ⟨⟨d0, d1, d2, d3⟩, hf2⟩ := hd
          have hC2 : CL S2 t a := CL_kp hC1 (hf2.mn (fun f i q => by omega)) (hC1.2.2.2.2.2.2.2.2.fr hf2 (by omega) (by omega))
          have hf3 : fr Fcl S S2 := hf.tr (hf2.mn (fun f i q => by show f < 40; omega))
          rw [d1]
          refine q_u1 (by decide) (c_pairsOf l S2 hO.1 hC2.1.2.2.2 hp) ?_
          have ih := ih (i + 1) S2 (by omega) hC2 hf3
          rw [sn9] at ih
          have k7 : ∀ fv : Nat, (some (match (sn9 (aY a) (aV a).1 x m q c i).1 with | none => prs (aY a) (dayn (aY a) q m (x + nI i, (aV a).1, 0, 0)).2.1 | some f => min f (prs (aY a) (dayn (aY a) q m (x + nI i, (aV a).1, 0, 0)).2.1)) : Option Nat) = some fv → AT 7 [some (.inr (.inr (0, 0))), some (.inl x), some (.inl (nI z)), some (.inl (nI m)), some (.inl (nI q)), some (.inl (nI n)), some (.inl (nI c)), some (.inl (oI (sn9 (aY a) (aV a).1 x m q c i).1)), some (.inl (nI (sn9 (aY a) (aV a).1 x m q c i).2.1)), some (.inl (nI (sn9 (aY a) (aV a).1 x m q c i).2.2)), some (.inl (nI i)), some (.inl (nI (prs (aY a) (dayn (aY a) q m (x + nI i, (aV a).1, 0, 0)).2.1)))] [.inl (nI fv)] S2 := by
            intro fv hfv
            rw [hfv] at ih
            refine step 40 [(2, [true, true, true, true, true, true, true, false, false, false, false, false]), (4, [true, true, true, true, true, true, true, false, false, false, false, false]), (5, [true, true, true, true, true, true, true, true, true, true, true, false]), (7, [true, true, true, true, true, true, true, true, true, true, true, true])] 7 _ _ _ ?_
            simp only [q_vcs, q_vcc, q_vl, q_vu, ↓reduceIte, Nat.reduceEqDiff, Bool.false_eq_true, q_isc, q_mk, q_msk, zbX10_span, q_pad, q_ent, q_get, q_put, q_nl, q_w, List.cons_append, List.nil_append, q_aks, q_als, Nat.reduceAdd, Nat.reduceLeDiff, Nat.zero_le, true_and, and_true, Option.some.injEq, Sum.inl.injEq, Sum.inr.injEq, true_or, or_true, and_self, q_sw]
            rw [i_max (a := (sn9 (aY a) (aV a).1 x m q c i).2.1) (by omega) (by omega), d1]
            refine ⟨by decide, ?_⟩
            refine q_u1 (by decide) (c_carsIn l S2 hp.1) ?_
            rw [i_bit (by omega) (by omega), nI_add, nI_1]
            exact ih
          cases hs : (sn9 (aY a) (aV a).1 x m q c i).1 with
          | none =>
            rw [hs] at k7
            exact ⟨fun h => absurd rfl h, fun _ => k7 _ rfl⟩
          | some f =>
            rw [hs] at k7
            have := hsl.1 f hs
            rw [show oI (some f) = nI f from rfl, i_min (a := f) (by omega) (by omega)]
            exact ⟨fun _ => ⟨by decide, k7 _ rfl⟩, fun h => absurd h (i_ne1 (n := f) (by omega))⟩
      have k4 : AT 4 [some (.inr (.inr (0, 0))), some (.inl x), some (.inl (nI z)), some (.inl (nI m)), some (.inl (nI q)), some (.inl (nI n)), some (.inl (nI c)), none, none, none, none, none] [.inl 1, .inr (.inr (0, 0))] S := by
        refine step 40 [(2, [true, true, true, true, true, true, true, false, false, false, false, false]), (4, [true, true, true, true, true, true, true, false, false, false, false, false]), (5, [true, true, true, true, true, true, true, true, true, true, true, false]), (7, [true, true, true, true, true, true, true, true, true, true, true, true])] 4 _ _ _ ?_
        simp only [q_vcs, q_vcc, q_vl, q_vu, ↓reduceIte, Nat.reduceEqDiff, Bool.false_eq_true, q_isc, q_mk, q_msk, zbX10_span, q_pad, q_ent, q_get, q_put, q_nl, q_w, List.cons_append, List.nil_append, q_aks, q_als, Nat.reduceAdd, Nat.reduceLeDiff, Nat.zero_le, true_and, and_true, Option.some.injEq, Sum.inl.injEq, Sum.inr.injEq, true_or, or_true, and_self, q_sw]
        refine q_u0 (by decide) (c_need1 l S) ?_
        exact k5 z 0 S (by omega) hC fr.rf
      have k2 : AT 2 [some (.inr (.inr (0, 0))), some (.inl x), some (.inl (nI z)), some (.inl (nI m)), some (.inl (nI q)), some (.inl (nI n)), some (.inl (nI c)), none, none, none, none, none] [.inl 1, .inr (.inr (0, 0))] S := by
        refine step 40 [(2, [true, true, true, true, true, true, true, false, false, false, false, false]), (4, [true, true, true, true, true, true, true, false, false, false, false, false]), (5, [true, true, true, true, true, true, true, true, true, true, true, false]), (7, [true, true, true, true, true, true, true, true, true, true, true, true])] 2 _ _ _ ?_
        simp only [q_vcs, q_vcc, q_vl, q_vu, ↓reduceIte, Nat.reduceEqDiff, Bool.false_eq_true, q_isc, q_mk, q_msk, zbX10_span, q_pad, q_ent, q_get, q_put, q_nl, q_w, List.cons_append, List.nil_append, q_aks, q_als, Nat.reduceAdd, Nat.reduceLeDiff, Nat.zero_le, true_and, and_true, Option.some.injEq, Sum.inl.injEq, Sum.inr.injEq, true_or, or_true, and_self, q_sw]
        refine q_u0 (by decide) (c_need1 l S) ?_
        refine q_u1 (by decide) (c_isWithin l S (nI n) 0 2) ?_
        rw [decide_eq_true h2.1]
        refine ⟨fun q => absurd q (by decide), fun _ => ?_⟩
        rw [hY.1.2.1]
        refine q_u1 (by decide) (c_isWithin l S (nI c) 0 (nI (aY a 1 0) - 1)) ?_
        rw [decide_eq_true h2.2]
        exact ⟨fun q => absurd q (by decide), fun _ => k4⟩
      refine step 40 [(2, [true, true, true, true, true, true, true, false, false, false, false, false]), (4, [true, true, true, true, true, true, true, false, false, false, false, false]), (5, [true, true, true, true, true, true, true, true, true, true, true, false]), (7, [true, true, true, true, true, true, true, true, true, true, true, true])] 0 _ _ _ ?_
      simp only [q_vcs, q_vcc, q_vl, q_vu, ↓reduceIte, Nat.reduceEqDiff, Bool.false_eq_true, q_isc, q_mk, q_msk, zbX10_span, q_pad, q_ent, q_get, q_put, q_nl, q_w, List.cons_append, List.nil_append, q_aks, q_als, Nat.reduceAdd, Nat.reduceLeDiff, Nat.zero_le, true_and, and_true, Option.some.injEq, Sum.inl.injEq, Sum.inr.injEq, true_or, or_true, and_self, q_sw]
      refine q_u1 (by decide) (c_isWithin l S (nI z) 1 20) ?_
      rw [decide_eq_true h1.1]
      refine ⟨fun q => absurd q (by decide), fun _ => ?_⟩
      refine q_u1 (by decide) (c_isWithin l S (nI m) 1 60) ?_
      rw [decide_eq_true h1.2.1]
      refine ⟨fun q => absurd q (by decide), fun _ => ?_⟩
      refine q_u1 (by decide) (c_isWithin l S (nI q) 0 16) ?_
      rw [decide_eq_true h1.2.2]
      refine ⟨fun q => absurd q (by decide), fun _ => ?_⟩
      exact k2
    · rw [spI_1 (fun q => h2 q.2)]
      refine CA_x (d := 7) (by decide) ?_
      refine q_methC zoX10_span (Nat.le_of_ble_eq_true rfl) ?_
      intro AT step hX
      have hn := h2
      have go := fun ls => hX 4 ls [.inl 0, .inr (.inr (0, 0))] S ⟨_, _, _, _, _, _, _, _, _, _, _, _, _, zbX10_span.2.2.2.2.1, rfl, Nat.le_of_ble_eq_true rfl, Nat.le_of_ble_eq_true rfl, by decide, c_needX l hl hC nmI 1 rfl⟩
      have k9 : AT 2 [some (.inr (.inr (0, 0))), some (.inl x), some (.inl z), some (.inl m), some (.inl q), some (.inl y), some (.inl c), none, none, none, none, none] [.inl 1, .inr (.inr (0, 0))] S := by
        refine step 40 [(2, [true, true, true, true, true, true, true, false, false, false, false, false]), (4, [true, true, true, true, true, true, true, false, false, false, false, false]), (5, [true, true, true, true, true, true, true, true, true, true, true, false]), (7, [true, true, true, true, true, true, true, true, true, true, true, true])] 2 _ _ _ ?_
        simp only [q_vcs, q_vcc, q_vl, q_vu, ↓reduceIte, Nat.reduceEqDiff, Bool.false_eq_true, q_isc, q_mk, q_msk, zbX10_span, q_pad, q_ent, q_get, q_put, q_nl, q_w, List.cons_append, List.nil_append, q_aks, q_als, Nat.reduceAdd, Nat.reduceLeDiff, Nat.zero_le, true_and, and_true, Option.some.injEq, Sum.inl.injEq, Sum.inr.injEq, true_or, or_true, and_self, q_sw]
        refine q_u0 (by decide) (c_need1 l S) ?_
        refine q_u1 (by decide) (c_isWithin l S y 0 2) ?_
        by_cases k0 : 0 ≤ y ∧ y ≤ 2
        · rw [decide_eq_true k0]
          refine ⟨fun q => absurd q (by decide), fun _ => ?_⟩
          rw [hC.1.2.2.2.1.2.1]
          refine q_u1 (by decide) (c_isWithin l S c 0 (nI (aY a 1 0) - 1)) ?_
          rw [decide_eq_false (fun z => hn ⟨k0, z⟩)]
          exact ⟨fun _ => go _, fun q => absurd rfl q⟩
        · rw [decide_eq_false k0]
          exact ⟨fun _ => go _, fun q => absurd rfl q⟩
      refine step 40 [(2, [true, true, true, true, true, true, true, false, false, false, false, false]), (4, [true, true, true, true, true, true, true, false, false, false, false, false]), (5, [true, true, true, true, true, true, true, true, true, true, true, false]), (7, [true, true, true, true, true, true, true, true, true, true, true, true])] 0 _ _ _ ?_
      simp only [q_vcs, q_vcc, q_vl, q_vu, ↓reduceIte, Nat.reduceEqDiff, Bool.false_eq_true, q_isc, q_mk, q_msk, zbX10_span, q_pad, q_ent, q_get, q_put, q_nl, q_w, List.cons_append, List.nil_append, q_aks, q_als, Nat.reduceAdd, Nat.reduceLeDiff, Nat.zero_le, true_and, and_true, Option.some.injEq, Sum.inl.injEq, Sum.inr.injEq, true_or, or_true, and_self, q_sw]
      refine q_u1 (by decide) (c_isWithin l S z 1 20) ?_
      rw [decide_eq_true h1.1]
      refine ⟨fun q => absurd q (by decide), fun _ => ?_⟩
      refine q_u1 (by decide) (c_isWithin l S m 1 60) ?_
      rw [decide_eq_true h1.2.1]
      refine ⟨fun q => absurd q (by decide), fun _ => ?_⟩
      refine q_u1 (by decide) (c_isWithin l S q 0 16) ?_
      rw [decide_eq_true h1.2.2]
      refine ⟨fun q => absurd q (by decide), fun _ => ?_⟩
      exact k9
  · rw [spI_1 (fun q => h1 q.1)]
    refine CA_x (d := 7) (by decide) ?_
    refine q_methC zoX10_span (Nat.le_of_ble_eq_true rfl) ?_
    intro AT step hX
    have hn := h1
    have go := fun ls => hX 2 ls [.inl 0, .inr (.inr (0, 0))] S ⟨_, _, _, _, _, _, _, _, _, _, _, _, _, zbX10_span.2.2.1, rfl, Nat.le_of_ble_eq_true rfl, Nat.le_of_ble_eq_true rfl, by decide, c_needX l hl hC nmI 1 rfl⟩
    refine step 40 [(2, [true, true, true, true, true, true, true, false, false, false, false, false]), (4, [true, true, true, true, true, true, true, false, false, false, false, false]), (5, [true, true, true, true, true, true, true, true, true, true, true, false]), (7, [true, true, true, true, true, true, true, true, true, true, true, true])] 0 _ _ _ ?_
    simp only [q_vcs, q_vcc, q_vl, q_vu, ↓reduceIte, Nat.reduceEqDiff, Bool.false_eq_true, q_isc, q_mk, q_msk, zbX10_span, q_pad, q_ent, q_get, q_put, q_nl, q_w, List.cons_append, List.nil_append, q_aks, q_als, Nat.reduceAdd, Nat.reduceLeDiff, Nat.zero_le, true_and, and_true, Option.some.injEq, Sum.inl.injEq, Sum.inr.injEq, true_or, or_true, and_self, q_sw]
    refine q_u1 (by decide) (c_isWithin l S z 1 20) ?_
    by_cases k0 : 1 ≤ z ∧ z ≤ 20
    · rw [decide_eq_true k0]
      refine ⟨fun q => absurd q (by decide), fun _ => ?_⟩
      refine q_u1 (by decide) (c_isWithin l S m 1 60) ?_
      by_cases k1 : 1 ≤ m ∧ m ≤ 60
      · rw [decide_eq_true k1]
        refine ⟨fun q => absurd q (by decide), fun _ => ?_⟩
        refine q_u1 (by decide) (c_isWithin l S q 0 16) ?_
        rw [decide_eq_false (fun z => hn ⟨k0, k1, z⟩)]
        exact ⟨fun _ => go _, fun q => absurd rfl q⟩
      · rw [decide_eq_false k1]
        exact ⟨fun _ => go _, fun q => absurd rfl q⟩
    · rw [decide_eq_false k0]
      exact ⟨fun _ => go _, fun q => absurd rfl q⟩
