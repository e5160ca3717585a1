/-! The reference: a number as a stand -/
theorem i_sarN {n k : Nat} (hn : n < 2 ^ 31) (hk : k < 32) : nI n >>> (nI k &&& 31) = nI (n / 2 ^ k) := pk_shrN hn (nI k &&& 31) k (s_l k hk)
theorem num_dig {a x z : Nat} (hz : z < 6) : (a + 2 ^ 18 * x) / 2 ^ (3 * z) % 8 = a / 2 ^ (3 * z) % 8 := by
  have : z = 0 ∨ z = 1 ∨ z = 2 ∨ z = 3 ∨ z = 4 ∨ z = 5 := by omega
  rcases this with e | e | e | e | e | e <;> subst e <;> simp only [Nat.reduceMul, Nat.reducePow] <;> omega
theorem cw_get {P : Nat → List Nat} {j k : Nat} (hj : j < 3) (hk : k < (P j).length) : (cw P 3).getD ((cw P j).length + k) 0 = (P j).reverse.getD k 0 := by
  have : ∃ rest, cw P 3 = cw P j ++ ((P j).reverse ++ rest) := by
    have : j = 0 ∨ j = 1 ∨ j = 2 := by omega
    rcases this with e | e | e <;> subst e
    · exact ⟨(P 1).reverse ++ (P 2).reverse, by simp [cw]⟩
    · exact ⟨(P 2).reverse, by simp [cw]⟩
    · exact ⟨[], by simp [cw]⟩
  obtain ⟨rest, e⟩ := this
  rw [e, List.getD_eq_getElem?_getD, List.getD_eq_getElem?_getD, List.getElem?_append_right (by omega), List.getElem?_append_left (by simp; omega), show (cw P j).length + k - (cw P j).length = k by omega]
def JA (S : qSt) (i : Nat) (P : Nat → List Nat) (j k : Nat) (S1 : qSt) : Prop := (∀ a, a < 3 → q_I S1 65 i a = nI (P a).length) ∧ (∀ a q, a < 3 → q < (P a).length → (a < j ∨ (a = j ∧ q < k)) → q_I S1 65 i (3 + 6 * a + q) = nI ((P a).reverse.getD q 0)) ∧ (∀ q, 21 ≤ q → q_I S1 65 i q = q_I S 65 i q) ∧ fr (Fm i) S S1
theorem c_masRow (l : Launch) (S : qSt) {i : Nat} {P : Nat → List Nat} (hP : st_ok P) (ht : tot P ≤ 6) : q_Met q_mt l 0 k_X11_asRow 0 [.inr (.inr (40, 0)), .inl (nI (numS P)), .inr (.inr (65, i))] S (fun _ S' => RW1 S' i P ∧ (∀ q, 21 ≤ q → q_I S' 65 i q = q_I S 65 i q) ∧ fr (Fm i) S S') := by
  have b0 := hP.1.1
  have b1 := hP.2.1.1
  have hlt := o8_lt (cw_lt hP 3 (Nat.le_refl _))
  rw [cw_len] at hlt
  have h18 : (2 : Nat) ^ (3 * tot P) ≤ 2 ^ 18 := Nat.pow_le_pow_right (by decide) (by omega)
  have hn : numS P < 2 ^ 31 := by unfold numS; omega
  have d0 : numS P / 2 ^ 18 % 8 = (P 0).length := by unfold numS; omega
  have d1 : numS P / 2 ^ 21 % 8 = (P 1).length := by unfold numS; omega
  have d2 : numS P / 2 ^ 24 = tot P := by unfold numS; omega
  have dz : ∀ z, z < 6 → numS P / 2 ^ (3 * z) % 8 = o8 (cw P 3) / 2 ^ (3 * z) % 8 := fun z hz => by
    have := num_dig (a := o8 (cw P 3)) (x := (P 0).length + 8 * (P 1).length + 64 * tot P) hz
    rw [← this]
    congr 2
    unfold numS
    omega
  refine q_meth zoX11_asRow q_fos (Nat.le_of_ble_eq_true rfl) ?_
  intro AT step
  have hI : ∀ (j m k : Nat) (S1 : qSt), j < 3 → (∀ S2, JA S i P (j + 1) 0 S2 → AT 1 [some (.inr (.inr (40, 0))), some (.inl (nI (numS P))), some (.inr (.inr (65, i))), some (.inl (nI (cw P (j + 1)).length)), some (.inl (nI (tot P))), some (.inl (nI (j + 1))), none] [] S2) → k + m = (P j).length → JA S i P j k S1 → AT 2 [some (.inr (.inr (40, 0))), some (.inl (nI (numS P))), some (.inr (.inr (65, i))), some (.inl (nI ((cw P j).length + k))), some (.inl (nI (tot P))), some (.inl (nI j)), some (.inl (nI k))] [] S1 := by
    intro j m
    induction m with
    | zero =>
      intro k S1 hj hx hk hJ
      have h6 := (st_row hP hj).1
      refine step 40 [(1, [true, true, true, true, true, true, false]), (2, [true, true, true, true, true, true, true])] 2 _ _ _ ?_
      simp only [q_vcs, q_vcc, q_vl, q_vu, ↓reduceIte, Nat.reduceEqDiff, Bool.false_eq_true, q_isc, q_mk, q_msk, zbX11_asRow, q_pad, q_ent, q_get, q_put, q_nl, q_w, List.cons_append, List.nil_append, q_aks, q_als, Nat.reduceAdd, Nat.reduceLeDiff, Nat.zero_le, true_and, and_true, Option.some.injEq, Sum.inl.injEq, Sum.inr.injEq, true_or, or_true, and_self, q_sw]
      rw [i_0, i_cl (by omega), hJ.1 j hj, nI_leI (by omega) (by omega), nI_1]
      refine ⟨i_in (by omega) (by decide), fun _ => ?_, fun h => absurd (by omega) h⟩
      rw [show (cw P j).length + k = (cw P (j + 1)).length by rw [cw, List.length_append, List.length_reverse]; omega]
      refine hx S1 ⟨hJ.1, fun a q ha hq hc => ?_, hJ.2.2⟩
      refine hJ.2.1 a q ha hq ?_
      by_cases e : a = j
      · subst e; exact Or.inr ⟨rfl, by omega⟩
      · exact Or.inl (by omega)
    | succ m ih =>
      intro k S1 hj hx hk hJ
      have h6 := (st_row hP hj).1
      have hcl := cw_le P hj
      have ih := fun S2 => ih (k + 1) S2 hj hx (by omega)
      refine step 40 [(1, [true, true, true, true, true, true, false]), (2, [true, true, true, true, true, true, true])] 2 _ _ _ ?_
      simp only [q_vcs, q_vcc, q_vl, q_vu, ↓reduceIte, Nat.reduceEqDiff, Bool.false_eq_true, q_isc, q_mk, q_msk, zbX11_asRow, q_pad, q_ent, q_get, q_put, q_nl, q_w, List.cons_append, List.nil_append, q_aks, q_als, Nat.reduceAdd, Nat.reduceLeDiff, Nat.zero_le, true_and, and_true, Option.some.injEq, Sum.inl.injEq, Sum.inr.injEq, true_or, or_true, and_self, q_sw]
      rw [i_0, i_cl (by omega), hJ.1 j hj, nI_leI (by omega) (by omega), nI_1, nI_1, nI_1]
      have ei : (3 : Int32) + 6 * nI j + nI k = nI (3 + 6 * j + k) := by
        rw [show (6 : Int32) = nI 6 from rfl, show (3 : Int32) = nI 3 from rfl, pk_mul, nI_add, nI_add]
      rw [ei, i_cl (by omega), show (3 : Int32) = nI 3 from rfl, pk_mul, i_sarN hn (by omega), i_mask7, dz _ (by omega), o8_get (cw_lt hP 3 (Nat.le_refl _)) _ (by rw [cw_len]; omega), cw_get hj (by omega)]
      refine ⟨i_in (by omega) (by decide), fun h => absurd h (by omega), fun _ => ⟨i_in (by omega) (by decide), ?_⟩⟩
      refine ih _ ⟨fun a ha => ?_, fun a q ha hq hc => ?_, fun q hq => ?_, fr.wI hJ.2.2.2 ⟨rfl, rfl⟩⟩
      · rw [q_I_wI, if_neg (by omega)]; exact hJ.1 a ha
      · rw [q_I_wI]
        have h6a := (st_row hP ha).1
        by_cases e : a = j ∧ q = k
        · obtain ⟨e1, e2⟩ := e
          subst e1 e2
          rw [if_pos ⟨rfl, rfl, rfl⟩]
        · rw [if_neg (by omega)]
          exact hJ.2.1 a q ha hq (by omega)
      · rw [q_I_wI, if_neg (by omega)]; exact hJ.2.2.1 q hq
  have hO : ∀ (m j : Nat) (S1 : qSt), j + m = 3 → JA S i P j 0 S1 → AT 1 [some (.inr (.inr (40, 0))), some (.inl (nI (numS P))), some (.inr (.inr (65, i))), some (.inl (nI (cw P j).length)), some (.inl (nI (tot P))), some (.inl (nI j)), none] [] S1 := by
    intro m
    induction m with
    | zero =>
      intro j S1 hj hJ
      refine step 40 [(1, [true, true, true, true, true, true, false]), (2, [true, true, true, true, true, true, true])] 1 _ _ _ ?_
      simp only [q_vcs, q_vcc, q_vl, q_vu, ↓reduceIte, Nat.reduceEqDiff, Bool.false_eq_true, q_isc, q_mk, q_msk, zbX11_asRow, q_pad, q_ent, q_get, q_put, q_nl, q_w, List.cons_append, List.nil_append, q_aks, q_als, Nat.reduceAdd, Nat.reduceLeDiff, Nat.zero_le, true_and, and_true, Option.some.injEq, Sum.inl.injEq, Sum.inr.injEq, true_or, or_true, and_self, q_sw]
      rw [show j = 3 by omega]
      refine ⟨fun _ => ?_, fun h => absurd (by decide) h⟩
      exact ⟨fun a ha => ⟨hJ.1 a ha, fun q hq => hJ.2.1 a q ha hq (Or.inl (by omega))⟩, hJ.2.2⟩
    | succ m ih =>
      intro j S1 hj hJ
      have hx := hI j (P j).length 0 S1 (by omega) (fun S2 h2 => ih (j + 1) S2 (by omega) h2) (by omega) hJ
      rw [Nat.add_zero] at hx
      refine step 40 [(1, [true, true, true, true, true, true, false]), (2, [true, true, true, true, true, true, true])] 1 _ _ _ ?_
      simp only [q_vcs, q_vcc, q_vl, q_vu, ↓reduceIte, Nat.reduceEqDiff, Bool.false_eq_true, q_isc, q_mk, q_msk, zbX11_asRow, q_pad, q_ent, q_get, q_put, q_nl, q_w, List.cons_append, List.nil_append, q_aks, q_als, Nat.reduceAdd, Nat.reduceLeDiff, Nat.zero_le, true_and, and_true, Option.some.injEq, Sum.inl.injEq, Sum.inr.injEq, true_or, or_true, and_self, q_sw]
      rw [show (3 : Int32) = nI 3 from rfl, nI_leI (by decide) (by omega)]
      exact ⟨fun h => absurd h (by omega), fun _ => hx⟩
  refine step 40 [(1, [true, true, true, true, true, true, false]), (2, [true, true, true, true, true, true, true])] 0 _ _ _ ?_
  simp only [q_vcs, q_vcc, q_vl, q_vu, ↓reduceIte, Nat.reduceEqDiff, Bool.false_eq_true, q_isc, q_mk, q_msk, zbX11_asRow, q_pad, q_ent, q_get, q_put, q_nl, q_w, List.cons_append, List.nil_append, q_aks, q_als, Nat.reduceAdd, Nat.reduceLeDiff, Nat.zero_le, true_and, and_true, Option.some.injEq, Sum.inl.injEq, Sum.inr.injEq, true_or, or_true, and_self, q_sw]
  rw [show (18 : Int32) = nI 18 from rfl, show (21 : Int32) = nI 21 from rfl, show (24 : Int32) = nI 24 from rfl, i_sarN hn (by decide), i_sarN hn (by decide), i_sarN hn (by decide), i_mask7, i_mask7, d0, d1, d2, show Int32.toNatClampNeg 0 = 0 from rfl, show Int32.toNatClampNeg 1 = 1 from rfl, show Int32.toNatClampNeg 2 = 2 from rfl]
  have g0 : q_I (q_wI (q_wI S 65 i 0 (nI (P 0).length)) 65 i 1 (nI (P 1).length)) 65 i 0 = nI (P 0).length := by rw [q_I_wI, if_neg (by omega), q_I_wI, if_pos ⟨rfl, rfl, rfl⟩]
  have g1 : q_I (q_wI (q_wI S 65 i 0 (nI (P 0).length)) 65 i 1 (nI (P 1).length)) 65 i 1 = nI (P 1).length := by rw [q_I_wI, if_pos ⟨rfl, rfl, rfl⟩]
  have g2 : nI (tot P) - nI (P 0).length - nI (P 1).length = nI (P 2).length := by
    have : nI (tot P) = nI (P 2).length + nI (P 1).length + nI (P 0).length := by
      rw [nI_add, nI_add]
      congr 1
      unfold tot
      omega
    rw [this, Int32.add_sub_cancel, Int32.add_sub_cancel]
  rw [g0, g1, g2]
  refine ⟨i_in (k := 0) (by decide) (by decide), i_in (k := 1) (by decide) (by decide), i_in (k := 0) (by decide) (by decide), i_in (k := 1) (by decide) (by decide), i_in (k := 2) (by decide) (by decide), ?_⟩
  refine hO 3 0 _ rfl ⟨fun a ha => ?_, fun a q ha hq hc => absurd hc (by omega), fun q hq => ?_, fr.wI (fr.wI (fr.wI fr.rf ⟨rfl, rfl⟩) ⟨rfl, rfl⟩) ⟨rfl, rfl⟩⟩
  · have : a = 0 ∨ a = 1 ∨ a = 2 := by omega
    rcases this with e | e | e <;> subst e <;> simp [q_I_wI]
  · rw [q_I_wI, if_neg (by omega), q_I_wI, if_neg (by omega), q_I_wI, if_neg (by omega)]
