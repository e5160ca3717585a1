/-! The reference: a stand's place in the table -/
def fcc : Nat → Nat
  | 0 => 1
  | i + 1 => fcc i * (i + 1)
def bsf : Nat → Nat
  | 0 => 0
  | i + 1 => bsf i + fcc (i + 1) * (i + 1 + 1) * (i + 1 + 1)
def lrk : List Nat → Nat
  | [] => 0
  | c :: r => r.countP (fun x => decide (x < c)) * fcc r.length + lrk r
def plof (P : Nat → List Nat) : Nat := if tot P = 0 then 0 else 1 + bsf (tot P - 1) + (lrk (cw P 3) * (tot P + 1) + (P 0).length) * (tot P + 1) + (P 1).length
theorem i_subL {a k : Nat} (h : a ≤ k) : nI k - nI a = nI (k - a) := by
  have : nI k = nI (k - a) + nI a := by rw [nI_add]; congr 1; omega
  rw [this, Int32.add_sub_cancel]
theorem c_mplaceOf (l : Launch) (S : qSt) {P : Nat → List Nat} (hP : st_ok P) (ht : tot P ≤ 6) : q_Met q_mt l 0 k_X11_placeOf 1 [.inr (.inr (40, 0)), .inl (nI (numS P))] S (fun r S' => r = some (.inl (nI (plof P))) ∧ S' = S) := by
  have b0 := hP.1.1
  have b1 := hP.2.1.1
  have hlt := o8_lt (cw_lt hP 3 (Nat.le_refl _))
  rw [cw_len] at hlt
  have h18 : (2 : Nat) ^ (3 * tot P) ≤ 2 ^ 18 := Nat.pow_le_pow_right (by decide) (by omega)
  have hn : numS P < 2 ^ 31 := by unfold numS; omega
  have d0 : numS P / 2 ^ 18 % 8 = (P 0).length := by unfold numS; omega
  have d1 : numS P / 2 ^ 21 % 8 = (P 1).length := by unfold numS; omega
  have d2 : numS P / 2 ^ 24 = tot P := by unfold numS; omega
  have dz : ∀ z, z < tot P → nI (numS P) >>> ((3 * nI z) &&& 31) &&& 7 = nI ((cw P 3).getD z 0) := fun z hz => by
    have := num_dig (a := o8 (cw P 3)) (x := (P 0).length + 8 * (P 1).length + 64 * tot P) (z := z) (by omega)
    rw [show (3 : Int32) = nI 3 from rfl, pk_mul, i_sarN hn (by omega), i_mask7, ← o8_get (cw_lt hP 3 (Nat.le_refl _)) z (by rw [cw_len]; exact hz), ← this]
    congr 3
    unfold numS
    omega
  have hd6 : ∀ z, z < tot P → (cw P 3).getD z 0 < 6 := fun z hz => by
    rw [List.getD_eq_getElem?_getD, List.getElem?_eq_getElem (by rw [cw_len]; exact hz)]
    exact cw_lt hP 3 (Nat.le_refl _) _ (List.getElem_mem _)
  have hdrop : ∀ z, z < tot P → (cw P 3).drop z = (cw P 3).getD z 0 :: (cw P 3).drop (z + 1) := fun z hz => by
    rw [List.drop_eq_getElem_cons (by rw [cw_len]; exact hz), List.getD_eq_getElem?_getD, List.getElem?_eq_getElem (by rw [cw_len]; exact hz)]
    rfl
  refine q_meth zoX11_placeOf q_fos (Nat.le_of_ble_eq_true rfl) ?_
  intro AT step
  have h5 : ∀ (a R : Nat) (f : Int32), a < tot P → (∀ s, s = ((cw P 3).drop (a + 1)).countP (fun x => decide (x < (cw P 3).getD a 0)) → AT 4 [some (.inr (.inr (40, 0))), some (.inl (nI (numS P))), some (.inl (nI (tot P))), some (.inl (nI (R * (tot P - a) + s))), some (.inl (nI (bsf (tot P - 1)))), some (.inl f), some (.inl (nI (a + 1))), none, none] [] S) → ∀ (m b s : Nat), b + m = tot P → a < b → s + ((cw P 3).drop b).countP (fun x => decide (x < (cw P 3).getD a 0)) = ((cw P 3).drop (a + 1)).countP (fun x => decide (x < (cw P 3).getD a 0)) → AT 5 [some (.inr (.inr (40, 0))), some (.inl (nI (numS P))), some (.inl (nI (tot P))), some (.inl (nI R)), some (.inl (nI (bsf (tot P - 1)))), some (.inl f), some (.inl (nI a)), some (.inl (nI s)), some (.inl (nI b))] [] S := by
    intro a R f ha hx m
    induction m with
    | zero =>
      intro b s hb hab hs
      rw [List.drop_of_length_le (by rw [cw_len]; omega), List.countP_nil, Nat.add_zero] at hs
      refine step 40 [(2, [true, true, true, true, true, true, true, false, false]), (4, [true, true, true, true, true, true, true, false, false]), (5, [true, true, true, true, true, true, true, true, true])] 5 _ _ _ ?_
      simp only [q_vcs, q_vcc, q_vl, q_vu, ↓reduceIte, Nat.reduceEqDiff, Bool.false_eq_true, q_isc, q_mk, q_msk, zbX11_placeOf, q_pad, q_ent, q_get, q_put, q_nl, q_w, List.cons_append, List.nil_append, q_aks, q_als, Nat.reduceAdd, Nat.reduceLeDiff, Nat.zero_le, true_and, and_true, Option.some.injEq, Sum.inl.injEq, Sum.inr.injEq, true_or, or_true, and_self, q_sw]
      rw [nI_leI (by omega) (by omega), i_subL (by omega), pk_mul, nI_add, nI_1]
      exact ⟨fun _ => hx s hs, fun h => absurd (by omega) h⟩
    | succ m ih =>
      intro b s hb hab hs
      have hb6 := hd6 b (by omega)
      have ha6 := hd6 a ha
      rw [hdrop b (by omega), List.countP_cons] at hs
      refine step 40 [(2, [true, true, true, true, true, true, true, false, false]), (4, [true, true, true, true, true, true, true, false, false]), (5, [true, true, true, true, true, true, true, true, true])] 5 _ _ _ ?_
      simp only [q_vcs, q_vcc, q_vl, q_vu, ↓reduceIte, Nat.reduceEqDiff, Bool.false_eq_true, q_isc, q_mk, q_msk, zbX11_placeOf, q_pad, q_ent, q_get, q_put, q_nl, q_w, List.cons_append, List.nil_append, q_aks, q_als, Nat.reduceAdd, Nat.reduceLeDiff, Nat.zero_le, true_and, and_true, Option.some.injEq, Sum.inl.injEq, Sum.inr.injEq, true_or, or_true, and_self, q_sw]
      rw [dz b (by omega), dz a ha, nI_leI (by omega) (by omega), nI_leI (by omega) (by omega), nI_1]
      refine ⟨fun h => absurd h (by omega), fun _ => ⟨fun h => ?_, fun h => ?_⟩⟩
      · rw [if_neg (by rw [decide_eq_true_eq]; omega)] at hs
        have := ih (b + 1) s (by omega) (by omega) (by omega)
        rw [show (0 : Int32) = nI 0 from rfl, nI_add]
        simpa [nI_1] using this
      · rw [if_pos (by rw [decide_eq_true_eq]; omega)] at hs
        have := ih (b + 1) (s + 1) (by omega) (by omega) (by omega)
        rw [show (1 : Int32) = nI 1 from rfl, nI_add]
        simpa [nI_1, nI_add] using this
  have h4 : ∀ (m a R : Nat) (f : Int32), a + m = tot P → 0 < tot P → R * fcc m + lrk ((cw P 3).drop a) = lrk (cw P 3) → AT 4 [some (.inr (.inr (40, 0))), some (.inl (nI (numS P))), some (.inl (nI (tot P))), some (.inl (nI R)), some (.inl (nI (bsf (tot P - 1)))), some (.inl f), some (.inl (nI a)), none, none] [] S := by
    intro m
    induction m with
    | zero =>
      intro a R f ha h0 hR
      rw [List.drop_of_length_le (by rw [cw_len]; omega)] at hR
      have hR' : R = lrk (cw P 3) := by
        simp only [fcc, lrk] at hR
        omega
      refine step 40 [(2, [true, true, true, true, true, true, true, false, false]), (4, [true, true, true, true, true, true, true, false, false]), (5, [true, true, true, true, true, true, true, true, true])] 4 _ _ _ ?_
      simp only [q_vcs, q_vcc, q_vl, q_vu, ↓reduceIte, Nat.reduceEqDiff, Bool.false_eq_true, q_isc, q_mk, q_msk, zbX11_placeOf, q_pad, q_ent, q_get, q_put, q_nl, q_w, List.cons_append, List.nil_append, q_aks, q_als, Nat.reduceAdd, Nat.reduceLeDiff, Nat.zero_le, true_and, and_true, Option.some.injEq, Sum.inl.injEq, Sum.inr.injEq, true_or, or_true, and_self, q_sw]
      rw [nI_leI (by omega) (by omega), show (18 : Int32) = nI 18 from rfl, show (21 : Int32) = nI 21 from rfl, i_sarN hn (by decide), i_sarN hn (by decide), i_mask7, i_mask7, d0, d1]
      refine ⟨fun _ => ?_, fun h => absurd (by omega) h⟩
      unfold plof
      rw [if_neg (by omega), hR', show (1 : Int32) = nI 1 from rfl, nI_add, nI_add, pk_mul, nI_add, pk_mul, nI_add, nI_add]
    | succ m ih =>
      intro a R f ha h0 hR
      rw [hdrop a (by omega), lrk, fcc, List.length_drop, cw_len, show tot P - (a + 1) = m by omega] at hR
      have hx := h5 a R f (by omega) (fun s hs => by
        refine ih (a + 1) _ f (by omega) h0 ?_
        rw [show tot P - a = m + 1 by omega, Nat.add_mul, hs, ← hR, Nat.mul_assoc, Nat.mul_comm (m + 1) (fcc m)]
        omega) m (a + 1) 0 (by omega) (by omega) (by omega)
      refine step 40 [(2, [true, true, true, true, true, true, true, false, false]), (4, [true, true, true, true, true, true, true, false, false]), (5, [true, true, true, true, true, true, true, true, true])] 4 _ _ _ ?_
      simp only [q_vcs, q_vcc, q_vl, q_vu, ↓reduceIte, Nat.reduceEqDiff, Bool.false_eq_true, q_isc, q_mk, q_msk, zbX11_placeOf, q_pad, q_ent, q_get, q_put, q_nl, q_w, List.cons_append, List.nil_append, q_aks, q_als, Nat.reduceAdd, Nat.reduceLeDiff, Nat.zero_le, true_and, and_true, Option.some.injEq, Sum.inl.injEq, Sum.inr.injEq, true_or, or_true, and_self, q_sw]
      rw [nI_leI (by omega) (by omega)]
      refine ⟨fun h => absurd h (by omega), fun _ => ?_⟩
      rw [nI_1]
      exact hx
  have h2 : ∀ (m i : Nat), i + 1 + m = tot P → AT 2 [some (.inr (.inr (40, 0))), some (.inl (nI (numS P))), some (.inl (nI (tot P))), some (.inl (nI 0)), some (.inl (nI (bsf i))), some (.inl (nI (fcc i))), some (.inl (nI (i + 1))), none, none] [] S := by
    intro m
    induction m with
    | zero =>
      intro i hi
      refine step 40 [(2, [true, true, true, true, true, true, true, false, false]), (4, [true, true, true, true, true, true, true, false, false]), (5, [true, true, true, true, true, true, true, true, true])] 2 _ _ _ ?_
      simp only [q_vcs, q_vcc, q_vl, q_vu, ↓reduceIte, Nat.reduceEqDiff, Bool.false_eq_true, q_isc, q_mk, q_msk, zbX11_placeOf, q_pad, q_ent, q_get, q_put, q_nl, q_w, List.cons_append, List.nil_append, q_aks, q_als, Nat.reduceAdd, Nat.reduceLeDiff, Nat.zero_le, true_and, and_true, Option.some.injEq, Sum.inl.injEq, Sum.inr.injEq, true_or, or_true, and_self, q_sw]
      rw [nI_leI (by omega) (by omega)]
      refine ⟨fun _ => ?_, fun h => absurd (by omega) h⟩
      rw [show i = tot P - 1 by omega]
      exact h4 (tot P) 0 0 _ (by omega) (by omega) (by simp)
    | succ m ih =>
      intro i hi
      have ih := ih (i + 1) (by omega)
      rw [bsf, fcc] at ih
      refine step 40 [(2, [true, true, true, true, true, true, true, false, false]), (4, [true, true, true, true, true, true, true, false, false]), (5, [true, true, true, true, true, true, true, true, true])] 2 _ _ _ ?_
      simp only [q_vcs, q_vcc, q_vl, q_vu, ↓reduceIte, Nat.reduceEqDiff, Bool.false_eq_true, q_isc, q_mk, q_msk, zbX11_placeOf, q_pad, q_ent, q_get, q_put, q_nl, q_w, List.cons_append, List.nil_append, q_aks, q_als, Nat.reduceAdd, Nat.reduceLeDiff, Nat.zero_le, true_and, and_true, Option.some.injEq, Sum.inl.injEq, Sum.inr.injEq, true_or, or_true, and_self, q_sw]
      rw [nI_leI (by omega) (by omega), nI_1, pk_mul, pk_mul, pk_mul, nI_add]
      refine ⟨fun h => absurd h (by omega), fun _ => ?_⟩
      exact ih
  refine step 40 [(2, [true, true, true, true, true, true, true, false, false]), (4, [true, true, true, true, true, true, true, false, false]), (5, [true, true, true, true, true, true, true, true, true])] 0 _ _ _ ?_
  simp only [q_vcs, q_vcc, q_vl, q_vu, ↓reduceIte, Nat.reduceEqDiff, Bool.false_eq_true, q_isc, q_mk, q_msk, zbX11_placeOf, q_pad, q_ent, q_get, q_put, q_nl, q_w, List.cons_append, List.nil_append, q_aks, q_als, Nat.reduceAdd, Nat.reduceLeDiff, Nat.zero_le, true_and, and_true, Option.some.injEq, Sum.inl.injEq, Sum.inr.injEq, true_or, or_true, and_self, q_sw]
  rw [show (24 : Int32) = nI 24 from rfl, i_sarN hn (by decide), d2, show (0 : Int32) = nI 0 from rfl, nI_eq (by omega) (by decide)]
  refine ⟨fun h => ?_, fun h => ?_⟩
  · exact h2 (tot P - 1) 0 (by omega)
  · unfold plof
    rw [if_pos h]
