/-! the reference: pairs, who is inside, the roomiest lane -/
theorem sum3 {Y : YD} (hY : y_ok Y) {f : Nat → Nat} (h : ∀ k, Y 0 0 ≤ k → f k = 0) : fb_sm f (Y 0 0) = f 0 + (f 1 + f 2) := by
  have h3 := hY.1
  have e : Y 0 0 = 0 ∨ Y 0 0 = 1 ∨ Y 0 0 = 2 ∨ Y 0 0 = 3 := by omega
  rcases e with e | e | e | e <;> rw [e]
  · have a0 := h 0 (by omega)
    have a1 := h 1 (by omega)
    have a2 := h 2 (by omega)
    simp [fb_sm, a0, a1, a2]
  · have a1 := h 1 (by omega)
    have a2 := h 2 (by omega)
    simp [fb_sm, a1, a2]
  · have a2 := h 2 (by omega)
    simp [fb_sm, a2]
  · simp [fb_sm]; omega
theorem prs_sum {Y : YD} (hY : y_ok Y) {P : Nat → List Nat} (hP : p_ok Y P) : fb_sm (fun q => pr1 Y (P q)) (Y 0 0) = prs Y P := by
  rw [sum3 hY (f := fun q => pr1 Y (P q)) (fun k hk => by rw [hP.2.1 k hk]; rfl)]
  unfold prs bks
  have a0 := (st_row hP.1 (k := 0) (by decide)).1
  have a1 := (st_row hP.1 (k := 1) (by decide)).1
  have a2 := (st_row hP.1 (k := 2) (by decide)).1
  rw [bk_pr1 Y (by omega), bk_pr1 Y (by omega), bk_pr1 Y (by omega)]
set_option maxHeartbeats 1000000 in
theorem c_mpairsIn (l : Launch) (S : qSt) {i : Nat} {Y : YD} {P : Nat → List Nat} (hY : y_ok Y) (hM : MY S Y) (hP : p_ok Y P) (hR : RW1 S i P) : q_Met q_mt l 1 k_X11_pairsIn 1 [.inr (.inr (40, 0)), .inr (.inr (65, i))] S (fun r S' => r = some (.inl (nI (prs Y P))) ∧ S' = S) := by
  have h3 := hY.1
  have h6c := hY.2.1
  refine q_meth zoX11_pairsIn q_fos (Nat.le_of_ble_eq_true rfl) ?_
  intro AT step
  have t0 : q_I S 44 0 (Int32.toNatClampNeg 0) = nI (Y 0 0) := hM.1
  have hL : ∀ (m j : Nat), j + m = Y 0 0 → AT 1 [some (.inr (.inr (40, 0))), some (.inr (.inr (65, i))), some (.inl (nI (fb_sm (fun q => pr1 Y (P q)) j))), some (.inl (nI j)), none, none] [] S := by
    intro m
    induction m with
    | zero =>
      intro j hj
      refine step 40 [(1, [true, true, true, true, false, false]), (2, [true, true, true, true, true, false]), (3, [true, true, true, true, true, true])] 1 _ _ _ ?_
      simp only [q_vcs, q_vcc, q_vl, q_vu, ↓reduceIte, Nat.reduceEqDiff, Bool.false_eq_true, q_isc, q_mk, q_msk, zbX11_pairsIn, q_pad, q_ent, q_get, q_put, q_nl, q_w, List.cons_append, List.nil_append, q_aks, q_als, Nat.reduceAdd, Nat.reduceLeDiff, Nat.zero_le, true_and, and_true, Option.some.injEq, Sum.inl.injEq, Sum.inr.injEq, true_or, or_true, and_self, q_sw]
      rw [t0, nI_leI (by omega) (by omega)]
      refine ⟨i_in (by decide) (by decide), fun _ => ?_, fun h => absurd (by omega) h⟩
      rw [← prs_sum hY hP, show j = Y 0 0 by omega]
    | succ m ih =>
      intro j hj
      have hj3 : j < 3 := by omega
      have h6 := (st_row hP.1 hj3).1
      have mid : ∀ (m2 k : Nat), k + m2 = (P j).length → AT 2 [some (.inr (.inr (40, 0))), some (.inr (.inr (65, i))), some (.inl (nI (fb_sm (fun q => pr1 Y (P q)) j + pr1 Y (sfx (P j) k)))), some (.inl (nI j)), some (.inl (nI k)), none] [] S := by
        intro m2
        induction m2 with
        | zero =>
          intro k hk
          refine step 40 [(1, [true, true, true, true, false, false]), (2, [true, true, true, true, true, false]), (3, [true, true, true, true, true, true])] 2 _ _ _ ?_
          simp only [q_vcs, q_vcc, q_vl, q_vu, ↓reduceIte, Nat.reduceEqDiff, Bool.false_eq_true, q_isc, q_mk, q_msk, zbX11_pairsIn, q_pad, q_ent, q_get, q_put, q_nl, q_w, List.cons_append, List.nil_append, q_aks, q_als, Nat.reduceAdd, Nat.reduceLeDiff, Nat.zero_le, true_and, and_true, Option.some.injEq, Sum.inl.injEq, Sum.inr.injEq, true_or, or_true, and_self, q_sw]
          rw [i_0, i_cl (by omega), (hR j hj3).1, nI_leI (by omega) (by omega), nI_1]
          refine ⟨i_in (by omega) (by decide), fun _ => ?_, fun h => absurd (by omega) h⟩
          have := ih (j + 1) (by omega)
          rw [fb_sm_succ] at this
          rw [show k = (P j).length by omega, sfx_all]
          exact this
        | succ m2 ih2 =>
          intro k hk
          have hkl : k < (P j).length := by omega
          have hcY := hP.2.2.1 j _ (wl_mem hkl)
          have inner : ∀ (m3 q : Nat), q + m3 = k → AT 3 [some (.inr (.inr (40, 0))), some (.inr (.inr (65, i))), some (.inl (nI (fb_sm (fun q => pr1 Y (P q)) j + pr1 Y (sfx (P j) k) + ((P j).reverse.take q).countP (fun x => soon Y x (wl P j k))))), some (.inl (nI j)), some (.inl (nI k)), some (.inl (nI q))] [] S := by
            intro m3
            induction m3 with
            | zero =>
              intro q hq
              refine step 40 [(1, [true, true, true, true, false, false]), (2, [true, true, true, true, true, false]), (3, [true, true, true, true, true, true])] 3 _ _ _ ?_
              simp only [q_vcs, q_vcc, q_vl, q_vu, ↓reduceIte, Nat.reduceEqDiff, Bool.false_eq_true, q_isc, q_mk, q_msk, zbX11_pairsIn, q_pad, q_ent, q_get, q_put, q_nl, q_w, List.cons_append, List.nil_append, q_aks, q_als, Nat.reduceAdd, Nat.reduceLeDiff, Nat.zero_le, true_and, and_true, Option.some.injEq, Sum.inl.injEq, Sum.inr.injEq, true_or, or_true, and_self, q_sw]
              rw [nI_leI (by omega) (by omega), nI_1]
              refine ⟨fun _ => ?_, fun h => absurd (by omega) h⟩
              have := ih2 (k + 1) (by omega)
              rw [sfx_succ hkl, pr1] at this
              have e : (sfx (P j) k).countP (fun x => soon Y x (wl P j k)) = ((P j).reverse.take q).countP (fun x => soon Y x (wl P j k)) := by
                unfold sfx
                rw [List.countP_reverse, show q = k by omega]
              rw [e, ← Nat.add_assoc, Nat.add_right_comm] at this
              exact this
            | succ m3 ih3 =>
              intro q hq
              have hql : q < (P j).length := by omega
              have hqY := hP.2.2.1 j _ (wl_mem hql)
              refine step 40 [(1, [true, true, true, true, false, false]), (2, [true, true, true, true, true, false]), (3, [true, true, true, true, true, true])] 3 _ _ _ ?_
              simp only [q_vcs, q_vcc, q_vl, q_vu, ↓reduceIte, Nat.reduceEqDiff, Bool.false_eq_true, q_isc, q_mk, q_msk, zbX11_pairsIn, q_pad, q_ent, q_get, q_put, q_nl, q_w, List.cons_append, List.nil_append, q_aks, q_als, Nat.reduceAdd, Nat.reduceLeDiff, Nat.zero_le, true_and, and_true, Option.some.injEq, Sum.inl.injEq, Sum.inr.injEq, true_or, or_true, and_self, q_sw]
              rw [nI_leI (by omega) (by omega)]
              refine ⟨fun h => absurd h (by omega), fun _ => ?_⟩
              refine q_u1 (by decide) (c_mstanding l S hP.1 hR hj3 hkl) ?_
              refine q_u1 (by decide) (c_mstanding l S hP.1 hR hj3 hql) ?_
              refine q_u1 (by decide) (c_misLater l S hY hM hcY hqY) ?_
              rw [bI_0, nI_1]
              have := ih3 (q + 1) (by omega)
              rw [cnt_take hql] at this
              refine ⟨fun h => ?_, fun h => ?_⟩
              · rw [if_neg (by rw [h]; decide)] at this
                rw [show (0 : Int32) = nI 0 from rfl, nI_add]
                exact this
              · rw [if_pos (ts_nf h), ← Nat.add_assoc] at this
                rw [nI_1]
                exact this
          refine step 40 [(1, [true, true, true, true, false, false]), (2, [true, true, true, true, true, false]), (3, [true, true, true, true, true, true])] 2 _ _ _ ?_
          simp only [q_vcs, q_vcc, q_vl, q_vu, ↓reduceIte, Nat.reduceEqDiff, Bool.false_eq_true, q_isc, q_mk, q_msk, zbX11_pairsIn, q_pad, q_ent, q_get, q_put, q_nl, q_w, List.cons_append, List.nil_append, q_aks, q_als, Nat.reduceAdd, Nat.reduceLeDiff, Nat.zero_le, true_and, and_true, Option.some.injEq, Sum.inl.injEq, Sum.inr.injEq, true_or, or_true, and_self, q_sw]
          rw [i_0, i_cl (by omega), (hR j hj3).1, nI_leI (by omega) (by omega)]
          exact ⟨i_in (by omega) (by decide), fun h => absurd h (by omega), fun _ => inner k 0 (by omega)⟩
      refine step 40 [(1, [true, true, true, true, false, false]), (2, [true, true, true, true, true, false]), (3, [true, true, true, true, true, true])] 1 _ _ _ ?_
      simp only [q_vcs, q_vcc, q_vl, q_vu, ↓reduceIte, Nat.reduceEqDiff, Bool.false_eq_true, q_isc, q_mk, q_msk, zbX11_pairsIn, q_pad, q_ent, q_get, q_put, q_nl, q_w, List.cons_append, List.nil_append, q_aks, q_als, Nat.reduceAdd, Nat.reduceLeDiff, Nat.zero_le, true_and, and_true, Option.some.injEq, Sum.inl.injEq, Sum.inr.injEq, true_or, or_true, and_self, q_sw]
      rw [t0, nI_leI (by omega) (by omega)]
      exact ⟨i_in (by decide) (by decide), fun h => absurd h (by omega), fun _ => mid (P j).length 0 (by omega)⟩
  refine step 40 [(1, [true, true, true, true, false, false])] 0 _ _ _ ?_
  simp only [q_vcs, q_vcc, q_vl, q_vu, ↓reduceIte, Nat.reduceEqDiff, Bool.false_eq_true, q_isc, q_mk, q_msk, zbX11_pairsIn, q_pad, q_ent, q_get, q_put, q_nl, q_w, List.cons_append, List.nil_append, q_aks, q_als, Nat.reduceAdd, Nat.reduceLeDiff, Nat.zero_le, true_and, and_true, Option.some.injEq, Sum.inl.injEq, Sum.inr.injEq, true_or, or_true, and_self, q_sw]
  exact hL (Y 0 0) 0 (by omega)
theorem c_minsideOf (l : Launch) (S : qSt) {i : Nat} {Y : YD} {P : Nat → List Nat} (hY : y_ok Y) (hM : MY S Y) (hP : p_ok Y P) (hR : RW1 S i P) : q_Met q_mt l 1 k_X11_insideOf 1 [.inr (.inr (40, 0)), .inr (.inr (65, i))] S (fun r S' => r = some (.inl (nI (bs P))) ∧ S' = S) := by
  have h3 := hY.1
  have h6c := hY.2.1
  refine q_meth zoX11_insideOf q_fos (Nat.le_of_ble_eq_true rfl) ?_
  intro AT step
  have t0 : q_I S 44 0 (Int32.toNatClampNeg 0) = nI (Y 0 0) := hM.1
  have hL : ∀ (m j n : Nat), j + m = Y 0 0 → (∀ x, n.testBit x = true ↔ ∃ q, q < j ∧ x ∈ P q) → AT 1 [some (.inr (.inr (40, 0))), some (.inr (.inr (65, i))), some (.inl (nI n)), some (.inl (nI j)), none] [] S := by
    intro m
    induction m with
    | zero =>
      intro j n hj hn
      refine step 40 [(1, [true, true, true, true, false]), (2, [true, true, true, true, true])] 1 _ _ _ ?_
      simp only [q_vcs, q_vcc, q_vl, q_vu, ↓reduceIte, Nat.reduceEqDiff, Bool.false_eq_true, q_isc, q_mk, q_msk, zbX11_insideOf, q_pad, q_ent, q_get, q_put, q_nl, q_w, List.cons_append, List.nil_append, q_aks, q_als, Nat.reduceAdd, Nat.reduceLeDiff, Nat.zero_le, true_and, and_true, Option.some.injEq, Sum.inl.injEq, Sum.inr.injEq, true_or, or_true, and_self, q_sw]
      rw [t0, nI_leI (by omega) (by omega)]
      refine ⟨i_in (by decide) (by decide), fun _ => ?_, fun h => absurd (by omega) h⟩
      have e : n = bs P := by
        apply Nat.eq_of_testBit_eq
        intro x
        rw [Bool.eq_iff_iff, hn x]
        unfold bs
        rw [Nat.testBit_or, Nat.testBit_or, bo_bit, bo_bit, bo_bit]
        simp only [Bool.or_eq_true, decide_eq_true_eq]
        constructor
        · rintro ⟨q, h1, h2⟩
          have : q = 0 ∨ q = 1 ∨ q = 2 := by omega
          rcases this with rfl | rfl | rfl
          · exact Or.inl h2
          · exact Or.inr (Or.inl h2)
          · exact Or.inr (Or.inr h2)
        · have key : ∀ q, x ∈ P q → ∃ q, q < j ∧ x ∈ P q := fun q h => by
            by_cases hq : q < j
            · exact ⟨q, hq, h⟩
            · rw [hP.2.1 q (by omega)] at h; cases h
          rintro (h | h | h)
          · exact key 0 h
          · exact key 1 h
          · exact key 2 h
      rw [e]
    | succ m ih =>
      intro j n hj hn
      have hj3 : j < 3 := by omega
      have h6 := (st_row hP.1 hj3).1
      have inner : ∀ (m2 k n : Nat), k + m2 = (P j).length → (∀ x, n.testBit x = true ↔ ((∃ q, q < j ∧ x ∈ P q) ∨ x ∈ (P j).reverse.take k)) → AT 2 [some (.inr (.inr (40, 0))), some (.inr (.inr (65, i))), some (.inl (nI n)), some (.inl (nI j)), some (.inl (nI k))] [] S := by
        intro m2
        induction m2 with
        | zero =>
          intro k n hk hn
          refine step 40 [(1, [true, true, true, true, false]), (2, [true, true, true, true, true])] 2 _ _ _ ?_
          simp only [q_vcs, q_vcc, q_vl, q_vu, ↓reduceIte, Nat.reduceEqDiff, Bool.false_eq_true, q_isc, q_mk, q_msk, zbX11_insideOf, q_pad, q_ent, q_get, q_put, q_nl, q_w, List.cons_append, List.nil_append, q_aks, q_als, Nat.reduceAdd, Nat.reduceLeDiff, Nat.zero_le, true_and, and_true, Option.some.injEq, Sum.inl.injEq, Sum.inr.injEq, true_or, or_true, and_self, q_sw]
          rw [i_0, i_cl (by omega), (hR j hj3).1, nI_leI (by omega) (by omega), nI_1]
          refine ⟨i_in (by omega) (by decide), fun _ => ?_, fun h => absurd (by omega) h⟩
          refine ih (j + 1) n (by omega) (fun x => ?_)
          rw [hn x, List.take_of_length_le (by simp; omega), List.mem_reverse]
          constructor
          · rintro (⟨q, h1, h2⟩ | h)
            · exact ⟨q, by omega, h2⟩
            · exact ⟨j, by omega, h⟩
          · rintro ⟨q, h1, h2⟩
            by_cases e : q = j
            · rw [e] at h2; exact Or.inr h2
            · exact Or.inl ⟨q, by omega, h2⟩
        | succ m2 ih2 =>
          intro k n hk hn
          have hkl : k < (P j).length := by omega
          have hc6 := (st_row hP.1 hj3).2 _ (wl_mem hkl)
          refine step 40 [(1, [true, true, true, true, false]), (2, [true, true, true, true, true])] 2 _ _ _ ?_
          simp only [q_vcs, q_vcc, q_vl, q_vu, ↓reduceIte, Nat.reduceEqDiff, Bool.false_eq_true, q_isc, q_mk, q_msk, zbX11_insideOf, q_pad, q_ent, q_get, q_put, q_nl, q_w, List.cons_append, List.nil_append, q_aks, q_als, Nat.reduceAdd, Nat.reduceLeDiff, Nat.zero_le, true_and, and_true, Option.some.injEq, Sum.inl.injEq, Sum.inr.injEq, true_or, or_true, and_self, q_sw]
          rw [i_0, i_cl (by omega), (hR j hj3).1, nI_leI (by omega) (by omega)]
          refine ⟨i_in (by omega) (by decide), fun h => absurd h (by omega), fun _ => ?_⟩
          refine q_u1 (by decide) (c_mstanding l S hP.1 hR hj3 hkl) ?_
          rw [i_1sh _ (by omega), fa_or, nI_1]
          refine ih2 (k + 1) _ (by omega) (fun x => ?_)
          rw [fb_bit_set, Bool.or_eq_true, hn x, mem_take_wl hkl, decide_eq_true_eq, or_assoc]
      refine step 40 [(1, [true, true, true, true, false]), (2, [true, true, true, true, true])] 1 _ _ _ ?_
      simp only [q_vcs, q_vcc, q_vl, q_vu, ↓reduceIte, Nat.reduceEqDiff, Bool.false_eq_true, q_isc, q_mk, q_msk, zbX11_insideOf, q_pad, q_ent, q_get, q_put, q_nl, q_w, List.cons_append, List.nil_append, q_aks, q_als, Nat.reduceAdd, Nat.reduceLeDiff, Nat.zero_le, true_and, and_true, Option.some.injEq, Sum.inl.injEq, Sum.inr.injEq, true_or, or_true, and_self, q_sw]
      rw [t0, nI_leI (by omega) (by omega)]
      exact ⟨i_in (by decide) (by decide), fun h => absurd h (by omega), fun _ => inner (P j).length 0 n (by omega) (fun x => by rw [hn x]; simp)⟩
  refine step 40 [(1, [true, true, true, true, false])] 0 _ _ _ ?_
  simp only [q_vcs, q_vcc, q_vl, q_vu, ↓reduceIte, Nat.reduceEqDiff, Bool.false_eq_true, q_isc, q_mk, q_msk, zbX11_insideOf, q_pad, q_ent, q_get, q_put, q_nl, q_w, List.cons_append, List.nil_append, q_aks, q_als, Nat.reduceAdd, Nat.reduceLeDiff, Nat.zero_le, true_and, and_true, Option.some.injEq, Sum.inl.injEq, Sum.inr.injEq, true_or, or_true, and_self, q_sw]
  exact hL (Y 0 0) 0 0 (by omega) (fun x => by simp)
theorem c_mroomiest (l : Launch) (S : qSt) {i : Nat} {Y : YD} {P : Nat → List Nat} (hY : y_ok Y) (hM : MY S Y) (hP : p_ok Y P) (hR : RW1 S i P) : q_Met q_mt l 2 k_X11_roomiest 1 [.inr (.inr (40, 0)), .inr (.inr (65, i))] S (fun r S' => r = some (.inl (oI (wid Y P (Y 0 0)))) ∧ S' = S) := by
  have h3 := hY.1
  refine q_meth zoX11_roomiest q_fos (Nat.le_of_ble_eq_true rfl) ?_
  intro AT step
  have t0 : q_I S 44 0 (Int32.toNatClampNeg 0) = nI (Y 0 0) := hM.1
  have hL : ∀ (m j : Nat), j + m = Y 0 0 → AT 1 [some (.inr (.inr (40, 0))), some (.inr (.inr (65, i))), some (.inl (oI (wid Y P j))), some (.inl (nI j))] [] S := by
    intro m
    induction m with
    | zero =>
      intro j hj
      refine step 40 [(1, [true, true, true, true])] 1 _ _ _ ?_
      simp only [q_vcs, q_vcc, q_vl, q_vu, ↓reduceIte, Nat.reduceEqDiff, Bool.false_eq_true, q_isc, q_mk, q_msk, zbX11_roomiest, q_pad, q_ent, q_get, q_put, q_nl, q_w, List.cons_append, List.nil_append, q_aks, q_als, Nat.reduceAdd, Nat.reduceLeDiff, Nat.zero_le, true_and, and_true, Option.some.injEq, Sum.inl.injEq, Sum.inr.injEq, true_or, or_true, and_self, q_sw]
      rw [t0, nI_leI (by omega) (by omega)]
      refine ⟨i_in (by decide) (by decide), fun _ => ?_, fun h => absurd (by omega) h⟩
      rw [show j = Y 0 0 by omega]
    | succ m ih =>
      intro j hj
      have ih := ih (j + 1) (by omega)
      rw [show wid Y P (j + 1) = match wid Y P j with | none => some j | some w => if rmZ Y P j ≤ rmZ Y P w then some w else some j from rfl] at ih
      refine step 40 [(1, [true, true, true, true])] 1 _ _ _ ?_
      simp only [q_vcs, q_vcc, q_vl, q_vu, ↓reduceIte, Nat.reduceEqDiff, Bool.false_eq_true, q_isc, q_mk, q_msk, zbX11_roomiest, q_pad, q_ent, q_get, q_put, q_nl, q_w, List.cons_append, List.nil_append, q_aks, q_als, Nat.reduceAdd, Nat.reduceLeDiff, Nat.zero_le, true_and, and_true, Option.some.injEq, Sum.inl.injEq, Sum.inr.injEq, true_or, or_true, and_self, q_sw]
      rw [t0, nI_leI (by omega) (by omega), nI_1]
      refine ⟨i_in (by decide) (by decide), fun h => absurd h (by omega), fun _ => ?_⟩
      cases hw : wid Y P j with
      | none =>
        rw [hw] at ih
        exact ⟨fun _ => ih, fun h => absurd rfl h⟩
      | some w =>
        rw [hw] at ih
        have hwl := wid_lt Y P hw
        dsimp only at ih
        refine ⟨fun h => absurd h (i_ne1 (by omega)), fun _ => ?_⟩
        refine q_u1 (by decide) (c_mroomOf l S hY hM hP hR (j := j) (by omega)) ?_
        refine q_u1 (by decide) (c_mroomOf l S hY hM hP hR (j := w) (by omega)) ?_
        rw [rmI_le2 hY hP.1 (by omega) (by omega)]
        refine ⟨fun h => ?_, fun h => ?_⟩
        · rw [if_pos h] at ih; exact ih
        · rw [if_neg h] at ih; exact ih
  refine step 40 [(1, [true, true, true, true])] 0 _ _ _ ?_
  simp only [q_vcs, q_vcc, q_vl, q_vu, ↓reduceIte, Nat.reduceEqDiff, Bool.false_eq_true, q_isc, q_mk, q_msk, zbX11_roomiest, q_pad, q_ent, q_get, q_put, q_nl, q_w, List.cons_append, List.nil_append, q_aks, q_als, Nat.reduceAdd, Nat.reduceLeDiff, Nat.zero_le, true_and, and_true, Option.some.injEq, Sum.inl.injEq, Sum.inr.injEq, true_or, or_true, and_self, q_sw]
  exact hL (Y 0 0) 0 (by omega)
