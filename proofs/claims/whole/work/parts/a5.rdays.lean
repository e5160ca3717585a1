/-! The reference's questions: would, days, evening, most, spare, lane, pays -/
theorem spI_cg {a : AS} {c c' : Prop} {r : SPR} (h : c ↔ c') : spI a c r = spI a c' r := by rw [propext h]
theorem KK.s {S S1 : qSt} (h : fr (fun f _ => f = 61 ∨ f = 62) S S1) : KK S S1 := ⟨fun j _ => congrFun (h 40 0 (by omega)).1 j, h.mn fun f k q => by omega⟩
theorem MDR.kk {S S1 : qSt} {s : DV} (h : MDR S S1 s) : KK S S1 := ⟨fun j hj => h.2.2.2.2.1 j (by omega), h.2.2.2.2.2.mn fun f k q => by omega⟩
theorem spw_f (a : AS) (x1 x2 x3 x4 x5 x6 x7 x8 : Int32) : sp_would a x1 x2 x3 x4 x5 x6 x7 x8 = spI a ((1 ≤ x1 ∧ x1 ≤ 2) ∧ (0 ≤ x2 ∧ x2 ≤ 9) ∧ (0 ≤ x3 ∧ x3 ≤ 99) ∧ (0 ≤ x4 ∧ x4 ≤ 5) ∧ (0 ≤ x5 ∧ x5 ≤ 2) ∧ (0 ≤ x6 ∧ x6 ≤ 4) ∧ (0 ≤ x7 ∧ x7 ≤ 999) ∧ (0 ≤ x8 ∧ x8 ≤ 1)) (.inr (nI (secn (lvv (wF x1 x2 x3 x4 x5 x6 x7 x8) (aC a)))), a) := spI_cg (by simp only [and_assoc])
theorem spd_f (a : AS) (x m q y : Int32) : sp_days a x m q y = spI a (((1 ≤ m ∧ m ≤ 60) ∧ (0 ≤ q ∧ q ≤ 16)) ∧ (0 ≤ y ∧ y ≤ 3)) (.inr (dyV (aY a) (dayn (aY a) q.toNatClampNeg m.toNatClampNeg (x, (aV a).1, 0, 0)) y.toNatClampNeg), a) := spI_cg (by simp only [and_assoc])
theorem r_would (l : Launch) {S : qSt} {a : AS} {B : Nat} (hR : RF S a) (hO : OKA a B) (x1 x2 x3 x4 x5 x6 x7 x8 : Int32) : RA l k_X11_would [.inr (.inr (40, 0)), .inl x1, .inl x2, .inl x3, .inl x4, .inl x5, .inl x6, .inl x7, .inl x8] S (sp_would a x1 x2 x3 x4 x5 x6 x7 x8) := by
  rw [spw_f]
  by_cases h2 : (1 ≤ x1 ∧ x1 ≤ 2) ∧ (0 ≤ x2 ∧ x2 ≤ 9) ∧ (0 ≤ x3 ∧ x3 ≤ 99) ∧ (0 ≤ x4 ∧ x4 ≤ 5) ∧ (0 ≤ x5 ∧ x5 ≤ 2) ∧ (0 ≤ x6 ∧ x6 ≤ 4) ∧ (0 ≤ x7 ∧ x7 ≤ 999) ∧ (0 ≤ x8 ∧ x8 ≤ 1)
  · rw [spI_2 h2]
    have hR0 := hR.th (v := 0)
    have gv := hO.v
    have hM := hR0.1
    have hV := hR0.2.2.2.1.2.1
    have h3 := hO.1.1
    have h6 := hO.1.2.1
    refine RA_k (d := 20) (by decide) hR ?_
    refine q_meth zoX11_would q_fos (Nat.le_of_ble_eq_true rfl) ?_
    intro AT step
    have kc : AT 4 [some (.inr (.inr (40, 0))), some (.inl x1), some (.inl x2), some (.inl x3), some (.inl x4), some (.inl x5), some (.inl x6), some (.inl x7), some (.inl x8)] [] (q_wI S 40 0 0 0) := by
      refine step 40 [(4, [true, true, true, true, true, true, true, true, true])] 4 _ _ _ ?_
      simp only [q_vcs, q_vcc, q_vl, q_vu, ↓reduceIte, Nat.reduceEqDiff, Bool.false_eq_true, q_isc, q_mk, q_msk, zbX11_would, q_pad, q_ent, q_get, q_put, q_nl, q_w, List.cons_append, List.nil_append, q_aks, q_als, Nat.reduceAdd, Nat.reduceLeDiff, Nat.zero_le, true_and, and_true, Option.some.injEq, Sum.inl.injEq, Sum.inr.injEq, true_or, or_true, and_self, q_sw]
      refine ⟨i_in (k := 0) (by decide) (by decide), i_in (k := 1) (by decide) (by decide), i_in (k := 2) (by decide) (by decide), i_in (k := 3) (by decide) (by decide), i_in (k := 4) (by decide) (by decide), i_in (k := 5) (by decide) (by decide), i_in (k := 6) (by decide) (by decide), i_in (k := 7) (by decide) (by decide), _, _, (by decide : 2 < 20), c_mbyLaw l _ (F := wF x1 x2 x3 x4 x5 x6 x7 x8) hO.2.1 (hR0.2.1.fr (F := fun f _ => f = 61 ∨ f = 62) (fr.wI (fr.wI (fr.wI (fr.wI (fr.wI (fr.wI (fr.wI (fr.wI fr.rf (Or.inr rfl)) (Or.inr rfl)) (Or.inr rfl)) (Or.inr rfl)) (Or.inr rfl)) (Or.inr rfl)) (Or.inr rfl)) (Or.inr rfl)) (by decide) (fun _ => by decide)) ?_, fun v S1 h => ?_⟩
      · intro k hk
        have : k = 0 ∨ k = 1 ∨ k = 2 ∨ k = 3 ∨ k = 4 ∨ k = 5 ∨ k = 6 ∨ k = 7 := by omega
        rcases this with e | e | e | e | e | e | e | e <;> subst e <;> rfl
      · obtain ⟨g1, g2⟩ := h
        cases g1
        exact ⟨rfl, KK.s (fr.tr (fr.wI (fr.wI (fr.wI (fr.wI (fr.wI (fr.wI (fr.wI (fr.wI fr.rf (Or.inr rfl)) (Or.inr rfl)) (Or.inr rfl)) (Or.inr rfl)) (Or.inr rfl)) (Or.inr rfl)) (Or.inr rfl)) (Or.inr rfl)) (g2.mn (fun f _ q => Or.inl q)))⟩
    refine step 40 [(4, [true, true, true, true, true, true, true, true, true])] 0 _ _ _ ?_
    simp only [q_vcs, q_vcc, q_vl, q_vu, ↓reduceIte, Nat.reduceEqDiff, Bool.false_eq_true, q_isc, q_mk, q_msk, zbX11_would, q_pad, q_ent, q_get, q_put, q_nl, q_w, List.cons_append, List.nil_append, q_aks, q_als, Nat.reduceAdd, Nat.reduceLeDiff, Nat.zero_le, true_and, and_true, Option.some.injEq, Sum.inl.injEq, Sum.inr.injEq, true_or, or_true, and_self, q_sw]
    refine q_u1 (by decide) (c_min l _ x1 1 2) ?_
    rw [decide_eq_true h2.1]
    first | refine ⟨fun _ => ?_, fun q => absurd q (by decide)⟩ | refine ⟨fun q => absurd q (by decide), fun _ => ?_⟩
    refine q_u1 (by decide) (c_min l _ x2 0 9) ?_
    rw [decide_eq_true h2.2.1]
    first | refine ⟨fun _ => ?_, fun q => absurd q (by decide)⟩ | refine ⟨fun q => absurd q (by decide), fun _ => ?_⟩
    refine q_u1 (by decide) (c_min l _ x3 0 99) ?_
    rw [decide_eq_true h2.2.2.1]
    first | refine ⟨fun _ => ?_, fun q => absurd q (by decide)⟩ | refine ⟨fun q => absurd q (by decide), fun _ => ?_⟩
    refine q_u1 (by decide) (c_min l _ x4 0 5) ?_
    rw [decide_eq_true h2.2.2.2.1]
    first | refine ⟨fun _ => ?_, fun q => absurd q (by decide)⟩ | refine ⟨fun q => absurd q (by decide), fun _ => ?_⟩
    refine q_u1 (by decide) (c_min l _ x5 0 2) ?_
    rw [decide_eq_true h2.2.2.2.2.1]
    first | refine ⟨fun _ => ?_, fun q => absurd q (by decide)⟩ | refine ⟨fun q => absurd q (by decide), fun _ => ?_⟩
    refine q_u1 (by decide) (c_min l _ x6 0 4) ?_
    rw [decide_eq_true h2.2.2.2.2.2.1]
    first | refine ⟨fun _ => ?_, fun q => absurd q (by decide)⟩ | refine ⟨fun q => absurd q (by decide), fun _ => ?_⟩
    refine q_u1 (by decide) (c_min l _ x7 0 999) ?_
    rw [decide_eq_true h2.2.2.2.2.2.2.1]
    first | refine ⟨fun _ => ?_, fun q => absurd q (by decide)⟩ | refine ⟨fun q => absurd q (by decide), fun _ => ?_⟩
    refine q_u1 (by decide) (c_min l _ x8 0 1) ?_
    rw [decide_eq_true h2.2.2.2.2.2.2.2]
    first | refine ⟨fun _ => ?_, fun q => absurd q (by decide)⟩ | refine ⟨fun q => absurd q (by decide), fun _ => ?_⟩
    refine q_u1 (by decide) (c_mbN l S (w := 1) (r := 1) (by decide) (by decide)) ?_
    first | refine ⟨fun _ => ?_, fun q => absurd q (by decide)⟩ | refine ⟨fun q => absurd q (by decide), fun _ => ?_⟩
    exact kc
  · rw [spI_1 h2]
    refine RA_i (d := 20) (by decide) hR ?_
    refine q_meth zoX11_would q_fos (Nat.le_of_ble_eq_true rfl) ?_
    intro AT step
    refine step 40 [(4, [true, true, true, true, true, true, true, true, true])] 0 _ _ _ ?_
    simp only [q_vcs, q_vcc, q_vl, q_vu, ↓reduceIte, Nat.reduceEqDiff, Bool.false_eq_true, q_isc, q_mk, q_msk, zbX11_would, q_pad, q_ent, q_get, q_put, q_nl, q_w, List.cons_append, List.nil_append, q_aks, q_als, Nat.reduceAdd, Nat.reduceLeDiff, Nat.zero_le, true_and, and_true, Option.some.injEq, Sum.inl.injEq, Sum.inr.injEq, true_or, or_true, and_self, q_sw]
    refine q_u1 (by decide) (c_min l _ x1 1 2) ?_
    by_cases k0 : 1 ≤ x1 ∧ x1 ≤ 2
    · rw [decide_eq_true k0]
      first | refine ⟨fun _ => ?_, fun q => absurd q (by decide)⟩ | refine ⟨fun q => absurd q (by decide), fun _ => ?_⟩
      refine q_u1 (by decide) (c_min l _ x2 0 9) ?_
      by_cases k1 : 0 ≤ x2 ∧ x2 ≤ 9
      · rw [decide_eq_true k1]
        first | refine ⟨fun _ => ?_, fun q => absurd q (by decide)⟩ | refine ⟨fun q => absurd q (by decide), fun _ => ?_⟩
        refine q_u1 (by decide) (c_min l _ x3 0 99) ?_
        by_cases k2 : 0 ≤ x3 ∧ x3 ≤ 99
        · rw [decide_eq_true k2]
          first | refine ⟨fun _ => ?_, fun q => absurd q (by decide)⟩ | refine ⟨fun q => absurd q (by decide), fun _ => ?_⟩
          refine q_u1 (by decide) (c_min l _ x4 0 5) ?_
          by_cases k3 : 0 ≤ x4 ∧ x4 ≤ 5
          · rw [decide_eq_true k3]
            first | refine ⟨fun _ => ?_, fun q => absurd q (by decide)⟩ | refine ⟨fun q => absurd q (by decide), fun _ => ?_⟩
            refine q_u1 (by decide) (c_min l _ x5 0 2) ?_
            by_cases k4 : 0 ≤ x5 ∧ x5 ≤ 2
            · rw [decide_eq_true k4]
              first | refine ⟨fun _ => ?_, fun q => absurd q (by decide)⟩ | refine ⟨fun q => absurd q (by decide), fun _ => ?_⟩
              refine q_u1 (by decide) (c_min l _ x6 0 4) ?_
              by_cases k5 : 0 ≤ x6 ∧ x6 ≤ 4
              · rw [decide_eq_true k5]
                first | refine ⟨fun _ => ?_, fun q => absurd q (by decide)⟩ | refine ⟨fun q => absurd q (by decide), fun _ => ?_⟩
                refine q_u1 (by decide) (c_min l _ x7 0 999) ?_
                by_cases k6 : 0 ≤ x7 ∧ x7 ≤ 999
                · rw [decide_eq_true k6]
                  first | refine ⟨fun _ => ?_, fun q => absurd q (by decide)⟩ | refine ⟨fun q => absurd q (by decide), fun _ => ?_⟩
                  refine q_u1 (by decide) (c_min l _ x8 0 1) ?_
                  rw [decide_eq_false (fun z => h2 ⟨k0, k1, k2, k3, k4, k5, k6, z⟩)]
                  first | refine ⟨fun _ => ?_, fun q => absurd q (by decide)⟩ | refine ⟨fun q => absurd q (by decide), fun _ => ?_⟩
                  refine q_u1 (by decide) (c_mbY l S (w := 1) (r := 1) (by decide) (by decide)) ?_
                  first | refine ⟨fun _ => ?_, fun q => absurd q (by decide)⟩ | refine ⟨fun q => absurd q (by decide), fun _ => ?_⟩
                  first | rfl | exact ⟨rfl, rfl⟩ | trivial
                · rw [decide_eq_false k6]
                  first | refine ⟨fun _ => ?_, fun q => absurd q (by decide)⟩ | refine ⟨fun q => absurd q (by decide), fun _ => ?_⟩
                  refine q_u1 (by decide) (c_mbY l S (w := 1) (r := 1) (by decide) (by decide)) ?_
                  first | refine ⟨fun _ => ?_, fun q => absurd q (by decide)⟩ | refine ⟨fun q => absurd q (by decide), fun _ => ?_⟩
                  first | rfl | exact ⟨rfl, rfl⟩ | trivial
              · rw [decide_eq_false k5]
                first | refine ⟨fun _ => ?_, fun q => absurd q (by decide)⟩ | refine ⟨fun q => absurd q (by decide), fun _ => ?_⟩
                refine q_u1 (by decide) (c_mbY l S (w := 1) (r := 1) (by decide) (by decide)) ?_
                first | refine ⟨fun _ => ?_, fun q => absurd q (by decide)⟩ | refine ⟨fun q => absurd q (by decide), fun _ => ?_⟩
                first | rfl | exact ⟨rfl, rfl⟩ | trivial
            · rw [decide_eq_false k4]
              first | refine ⟨fun _ => ?_, fun q => absurd q (by decide)⟩ | refine ⟨fun q => absurd q (by decide), fun _ => ?_⟩
              refine q_u1 (by decide) (c_mbY l S (w := 1) (r := 1) (by decide) (by decide)) ?_
              first | refine ⟨fun _ => ?_, fun q => absurd q (by decide)⟩ | refine ⟨fun q => absurd q (by decide), fun _ => ?_⟩
              first | rfl | exact ⟨rfl, rfl⟩ | trivial
          · rw [decide_eq_false k3]
            first | refine ⟨fun _ => ?_, fun q => absurd q (by decide)⟩ | refine ⟨fun q => absurd q (by decide), fun _ => ?_⟩
            refine q_u1 (by decide) (c_mbY l S (w := 1) (r := 1) (by decide) (by decide)) ?_
            first | refine ⟨fun _ => ?_, fun q => absurd q (by decide)⟩ | refine ⟨fun q => absurd q (by decide), fun _ => ?_⟩
            first | rfl | exact ⟨rfl, rfl⟩ | trivial
        · rw [decide_eq_false k2]
          first | refine ⟨fun _ => ?_, fun q => absurd q (by decide)⟩ | refine ⟨fun q => absurd q (by decide), fun _ => ?_⟩
          refine q_u1 (by decide) (c_mbY l S (w := 1) (r := 1) (by decide) (by decide)) ?_
          first | refine ⟨fun _ => ?_, fun q => absurd q (by decide)⟩ | refine ⟨fun q => absurd q (by decide), fun _ => ?_⟩
          first | rfl | exact ⟨rfl, rfl⟩ | trivial
      · rw [decide_eq_false k1]
        first | refine ⟨fun _ => ?_, fun q => absurd q (by decide)⟩ | refine ⟨fun q => absurd q (by decide), fun _ => ?_⟩
        refine q_u1 (by decide) (c_mbY l S (w := 1) (r := 1) (by decide) (by decide)) ?_
        first | refine ⟨fun _ => ?_, fun q => absurd q (by decide)⟩ | refine ⟨fun q => absurd q (by decide), fun _ => ?_⟩
        first | rfl | exact ⟨rfl, rfl⟩ | trivial
    · rw [decide_eq_false k0]
      first | refine ⟨fun _ => ?_, fun q => absurd q (by decide)⟩ | refine ⟨fun q => absurd q (by decide), fun _ => ?_⟩
      refine q_u1 (by decide) (c_mbY l S (w := 1) (r := 1) (by decide) (by decide)) ?_
      first | refine ⟨fun _ => ?_, fun q => absurd q (by decide)⟩ | refine ⟨fun q => absurd q (by decide), fun _ => ?_⟩
      first | rfl | exact ⟨rfl, rfl⟩ | trivial
theorem r_days (l : Launch) {S : qSt} {a : AS} {B : Nat} (hR : RF S a) (hO : OKA a B) (x m q y : Int32) : RA l k_X11_days [.inr (.inr (40, 0)), .inl x, .inl m, .inl q, .inl y] S (sp_days a x m q y) := by
  rw [spd_f]
  by_cases h2 : ((1 ≤ m ∧ m ≤ 60) ∧ (0 ≤ q ∧ q ≤ 16)) ∧ (0 ≤ y ∧ y ≤ 3)
  · rw [spI_2 h2]
    obtain ⟨u, hu, rfl⟩ := i_rng (m := 60) (by decide) (Int32.le_trans (by decide) h2.1.1.1) h2.1.1.2
    obtain ⟨v, hv, rfl⟩ := i_rng (m := 16) (by decide) h2.1.2.1 h2.1.2.2
    obtain ⟨n, hn, rfl⟩ := i_rng (m := 3) (by decide) h2.2.1 h2.2.2
    rw [i_cl (by omega), i_cl (by omega), i_cl (by omega)]
    have hR0 := hR.th (v := 0)
    have gv := hO.v
    have hM := hR0.1
    have hV := hR0.2.2.2.1.2.1
    have h3 := hO.1.1
    have h6 := hO.1.2.1
    refine RA_k (d := 20) (by decide) hR ?_
    refine q_meth zoX11_days q_fos (Nat.le_of_ble_eq_true rfl) ?_
    intro AT step
    have kc : AT 4 [some (.inr (.inr (40, 0))), some (.inl x), some (.inl (nI u)), some (.inl (nI v)), some (.inl (nI n))] [] (q_wI S 40 0 0 0) := by
      refine step 40 [(4, [true, true, true, true, true])] 4 _ _ _ ?_
      simp only [q_vcs, q_vcc, q_vl, q_vu, ↓reduceIte, Nat.reduceEqDiff, Bool.false_eq_true, q_isc, q_mk, q_msk, zbX11_days, q_pad, q_ent, q_get, q_put, q_nl, q_w, List.cons_append, List.nil_append, q_aks, q_als, Nat.reduceAdd, Nat.reduceLeDiff, Nat.zero_le, true_and, and_true, Option.some.injEq, Sum.inl.injEq, Sum.inr.injEq, true_or, or_true, and_self, q_sw]
      refine ⟨_, _, (by decide : 4 < 20), c_mdaysBy l _ hO.1 hM gv.1 hV.1 x (show v ≤ 16 by omega) (show u < 2 ^ 20 by omega), fun S1 h => ?_⟩
      have hk := h.kk
      have hp := dayn_ok hO.1 v (s := (x, (aV a).1, 0, 0)) gv.1 u
      obtain ⟨g1, g2, g3, g4, g5, g6⟩ := h
      have hR1 := RF_kk hR0 hk
      generalize dayn (aY a) v u (x, (aV a).1, 0, 0) = s at g1 g2 g3 g4 hp ⊢
      have : n = 0 ∨ n = 1 ∨ n = 2 ∨ n = 3 := by omega
      rcases this with e | e | e | e <;> subst e
      · refine ⟨fun _ => ?_, fun q => absurd rfl q⟩
        refine ⟨_, _, (by decide : 1 < 20), c_minsideOf l _ hO.1 hR1.1 hp g2, fun w S2 h => ?_⟩
        obtain ⟨h1, rfl⟩ := h
        cases h1
        exact ⟨rfl, hk⟩
      · refine ⟨fun q => absurd q (by decide), fun _ => ⟨fun _ => ?_, fun q => absurd rfl q⟩⟩
        refine ⟨_, _, (by decide : 1 < 20), c_mpairsIn l _ hO.1 hR1.1 hp g2, fun w S2 h => ?_⟩
        obtain ⟨h1, rfl⟩ := h
        cases h1
        exact ⟨rfl, hk⟩
      · exact ⟨fun q => absurd q (by decide), fun _ => ⟨fun q => absurd q (by decide), fun _ => ⟨fun _ => ⟨g3, hk⟩, fun q => absurd rfl q⟩⟩⟩
      · exact ⟨fun q => absurd q (by decide), fun _ => ⟨fun q => absurd q (by decide), fun _ => ⟨fun q => absurd q (by decide), fun _ => ⟨g4, hk⟩⟩⟩⟩
    refine step 40 [(4, [true, true, true, true, true])] 0 _ _ _ ?_
    simp only [q_vcs, q_vcc, q_vl, q_vu, ↓reduceIte, Nat.reduceEqDiff, Bool.false_eq_true, q_isc, q_mk, q_msk, zbX11_days, q_pad, q_ent, q_get, q_put, q_nl, q_w, List.cons_append, List.nil_append, q_aks, q_als, Nat.reduceAdd, Nat.reduceLeDiff, Nat.zero_le, true_and, and_true, Option.some.injEq, Sum.inl.injEq, Sum.inr.injEq, true_or, or_true, and_self, q_sw]
    refine q_u1 (by decide) (c_mareDays l _ (nI u) (nI v)) ?_
    rw [decide_eq_true h2.1]
    first | refine ⟨fun _ => ?_, fun q => absurd q (by decide)⟩ | refine ⟨fun q => absurd q (by decide), fun _ => ?_⟩
    refine q_u1 (by decide) (c_min l _ (nI n) 0 3) ?_
    rw [decide_eq_true h2.2]
    first | refine ⟨fun _ => ?_, fun q => absurd q (by decide)⟩ | refine ⟨fun q => absurd q (by decide), fun _ => ?_⟩
    refine q_u1 (by decide) (c_mbN l S (w := 1) (r := 1) (by decide) (by decide)) ?_
    first | refine ⟨fun _ => ?_, fun q => absurd q (by decide)⟩ | refine ⟨fun q => absurd q (by decide), fun _ => ?_⟩
    exact kc
  · rw [spI_1 h2]
    refine RA_i (d := 20) (by decide) hR ?_
    refine q_meth zoX11_days q_fos (Nat.le_of_ble_eq_true rfl) ?_
    intro AT step
    refine step 40 [(4, [true, true, true, true, true])] 0 _ _ _ ?_
    simp only [q_vcs, q_vcc, q_vl, q_vu, ↓reduceIte, Nat.reduceEqDiff, Bool.false_eq_true, q_isc, q_mk, q_msk, zbX11_days, q_pad, q_ent, q_get, q_put, q_nl, q_w, List.cons_append, List.nil_append, q_aks, q_als, Nat.reduceAdd, Nat.reduceLeDiff, Nat.zero_le, true_and, and_true, Option.some.injEq, Sum.inl.injEq, Sum.inr.injEq, true_or, or_true, and_self, q_sw]
    refine q_u1 (by decide) (c_mareDays l _ m q) ?_
    by_cases k0 : (1 ≤ m ∧ m ≤ 60) ∧ (0 ≤ q ∧ q ≤ 16)
    · rw [decide_eq_true k0]
      first | refine ⟨fun _ => ?_, fun q => absurd q (by decide)⟩ | refine ⟨fun q => absurd q (by decide), fun _ => ?_⟩
      refine q_u1 (by decide) (c_min l _ y 0 3) ?_
      rw [decide_eq_false (fun z => h2 ⟨k0, z⟩)]
      first | refine ⟨fun _ => ?_, fun q => absurd q (by decide)⟩ | refine ⟨fun q => absurd q (by decide), fun _ => ?_⟩
      refine q_u1 (by decide) (c_mbY l S (w := 1) (r := 1) (by decide) (by decide)) ?_
      first | refine ⟨fun _ => ?_, fun q => absurd q (by decide)⟩ | refine ⟨fun q => absurd q (by decide), fun _ => ?_⟩
      first | rfl | exact ⟨rfl, rfl⟩ | trivial
    · rw [decide_eq_false k0]
      first | refine ⟨fun _ => ?_, fun q => absurd q (by decide)⟩ | refine ⟨fun q => absurd q (by decide), fun _ => ?_⟩
      refine q_u1 (by decide) (c_mbY l S (w := 1) (r := 1) (by decide) (by decide)) ?_
      first | refine ⟨fun _ => ?_, fun q => absurd q (by decide)⟩ | refine ⟨fun q => absurd q (by decide), fun _ => ?_⟩
      first | rfl | exact ⟨rfl, rfl⟩ | trivial
theorem r_most (l : Launch) {S : qSt} {a : AS} {B : Nat} (hR : RF S a) (hO : OKA a B) (y : Int32) : RA l k_X11_most [.inr (.inr (40, 0)), .inl y] S (sp_most a y) := by
  unfold sp_most
  by_cases h2 : 0 ≤ y ∧ y ≤ 1
  · rw [spI_2 h2]
    obtain ⟨n, hn, rfl⟩ := i_rng (m := 1) (by decide) h2.1 h2.2
    rw [i_cl (by omega)]
    have hR0 := hR.th (v := 0)
    have gv := hO.v
    have hM := hR0.1
    have hV := hR0.2.2.2.1.2.1
    have h3 := hO.1.1
    have h6 := hO.1.2.1
    refine RA_s (d := 20) (by decide) hR ?_
    refine q_meth zoX11_most q_fos (Nat.le_of_ble_eq_true rfl) ?_
    intro AT step
    have k4 : ∀ r i, i + r = aY a 1 0 → AT 4 [some (.inr (.inr (40, 0))), some (.inl (nI n)), some (.inl (oI (mo9 (aV a).2.2 i).1)), some (.inl (nI (mo9 (aV a).2.2 i).2)), some (.inl (nI i))] [] (q_wI S 40 0 0 0) := by
      intro r
      have hm : ∀ i, i ≤ 6 → (mo9 (aV a).2.2 i).2 ≤ 2 ^ 20 ∧ ∀ b, (mo9 (aV a).2.2 i).1 = some b → b < i := by
        intro i
        induction i with
        | zero => intro _; exact ⟨Nat.zero_le _, fun b e => by cases e⟩
        | succ i ih =>
          intro hi
          have := gv.2.2 i (by omega)
          have hB := hO.2.2.2.2.2.2.2
          have ih := ih (by omega)
          unfold mo9
          split
          · exact ⟨by dsimp only; omega, fun b e => by cases e; omega⟩
          · exact ⟨ih.1, fun b e => by have := ih.2 b e; omega⟩
      induction r with
      | zero =>
        intro i hi
        have hi : i = aY a 1 0 := by omega
        subst hi
        obtain ⟨hm1, hm2⟩ := hm (aY a 1 0) h6
        refine step 40 [(4, [true, true, true, true, true])] 4 _ _ _ ?_
        simp only [q_vcs, q_vcc, q_vl, q_vu, ↓reduceIte, Nat.reduceEqDiff, Bool.false_eq_true, q_isc, q_mk, q_msk, zbX11_most, q_pad, q_ent, q_get, q_put, q_nl, q_w, List.cons_append, List.nil_append, q_aks, q_als, Nat.reduceAdd, Nat.reduceLeDiff, Nat.zero_le, true_and, and_true, Option.some.injEq, Sum.inl.injEq, Sum.inr.injEq, true_or, or_true, and_self, q_sw]
        rw [show q_I (q_wI S 40 0 0 0) 44 0 (Int32.toNatClampNeg 1) = nI (aY a 1 0) from hM.2.1, nI_leI (by omega) (by omega), nI_z (n := n) (by omega)]
        refine ⟨i_in (k := 1) (by decide) (by decide), fun _ => ?_, fun q => absurd (Nat.le_refl _) q⟩
        unfold moV
        cases hb : (mo9 (aV a).2.2 (aY a 1 0)).1 with
        | none => exact ⟨fun _ => rfl, fun _ => ⟨fun q => absurd rfl q, fun _ => rfl⟩⟩
        | some b =>
          have := hm2 b hb
          refine ⟨fun e => ?_, fun e => ⟨fun _ => ?_, fun q => absurd q (i_ne1 (n := b) (by omega))⟩⟩
          · dsimp only; rw [if_pos e]; rfl
          · dsimp only; rw [if_neg e]
      | succ r ih =>
        intro i hi
        obtain ⟨hm1, hm2⟩ := hm i (by omega)
        have hB := hO.2.2.2.2.2.2.2
        have hmi := gv.2.2 i (by omega)
        have ih := ih (i + 1) (by omega)
        unfold mo9 at ih
        refine step 40 [(4, [true, true, true, true, true])] 4 _ _ _ ?_
        simp only [q_vcs, q_vcc, q_vl, q_vu, ↓reduceIte, Nat.reduceEqDiff, Bool.false_eq_true, q_isc, q_mk, q_msk, zbX11_most, q_pad, q_ent, q_get, q_put, q_nl, q_w, List.cons_append, List.nil_append, q_aks, q_als, Nat.reduceAdd, Nat.reduceLeDiff, Nat.zero_le, true_and, and_true, Option.some.injEq, Sum.inl.injEq, Sum.inr.injEq, true_or, or_true, and_self, q_sw]
        rw [show q_I (q_wI S 40 0 0 0) 44 0 (Int32.toNatClampNeg 1) = nI (aY a 1 0) from hM.2.1, nI_leI (by omega) (by omega), nI_1, show (21 : Int32) + nI i = nI (21 + i) by rw [show (21 : Int32) = nI 21 from rfl, nI_add], i_cl (by omega), hV.2.1 i (by omega), nI_ltI (by omega) (show (aH a (aW a)).2.2 i < 2 ^ 31 from by have : (aV a).2.2 i ≤ B := hmi; have e : (aV a).2.2 i = (aH a (aW a)).2.2 i := rfl; omega)]
        refine ⟨i_in (k := 1) (by decide) (by decide), fun q => absurd q (by omega), fun _ => ⟨i_in (by omega) (by decide), fun q => ⟨i_in (by omega) (by decide), ?_⟩, fun q => ?_⟩⟩
        · rw [if_pos q] at ih; exact ih
        · rw [if_neg q] at ih; exact ih
    have kc : AT 3 [some (.inr (.inr (40, 0))), some (.inl (nI n)), none, none, none] [] (q_wI S 40 0 0 0) := by
      refine step 40 [(3, [true, true, true, true, true]), (4, [true, true, true, true, true])] 3 _ _ _ ?_
      simp only [q_vcs, q_vcc, q_vl, q_vu, ↓reduceIte, Nat.reduceEqDiff, Bool.false_eq_true, q_isc, q_mk, q_msk, zbX11_most, q_pad, q_ent, q_get, q_put, q_nl, q_w, List.cons_append, List.nil_append, q_aks, q_als, Nat.reduceAdd, Nat.reduceLeDiff, Nat.zero_le, true_and, and_true, Option.some.injEq, Sum.inl.injEq, Sum.inr.injEq, true_or, or_true, and_self, q_sw]
      exact k4 (aY a 1 0) 0 (by omega)
    refine step 40 [(3, [true, true, true, true, true])] 0 _ _ _ ?_
    simp only [q_vcs, q_vcc, q_vl, q_vu, ↓reduceIte, Nat.reduceEqDiff, Bool.false_eq_true, q_isc, q_mk, q_msk, zbX11_most, q_pad, q_ent, q_get, q_put, q_nl, q_w, List.cons_append, List.nil_append, q_aks, q_als, Nat.reduceAdd, Nat.reduceLeDiff, Nat.zero_le, true_and, and_true, Option.some.injEq, Sum.inl.injEq, Sum.inr.injEq, true_or, or_true, and_self, q_sw]
    refine q_u1 (by decide) (c_min l _ (nI n) 0 1) ?_
    rw [decide_eq_true h2]
    first | refine ⟨fun _ => ?_, fun q => absurd q (by decide)⟩ | refine ⟨fun q => absurd q (by decide), fun _ => ?_⟩
    refine q_u1 (by decide) (c_mbN l S (w := 1) (r := 1) (by decide) (by decide)) ?_
    first | refine ⟨fun _ => ?_, fun q => absurd q (by decide)⟩ | refine ⟨fun q => absurd q (by decide), fun _ => ?_⟩
    exact kc
  · rw [spI_1 h2]
    refine RA_i (d := 20) (by decide) hR ?_
    refine q_meth zoX11_most q_fos (Nat.le_of_ble_eq_true rfl) ?_
    intro AT step
    refine step 40 [(3, [true, true, true, true, true])] 0 _ _ _ ?_
    simp only [q_vcs, q_vcc, q_vl, q_vu, ↓reduceIte, Nat.reduceEqDiff, Bool.false_eq_true, q_isc, q_mk, q_msk, zbX11_most, q_pad, q_ent, q_get, q_put, q_nl, q_w, List.cons_append, List.nil_append, q_aks, q_als, Nat.reduceAdd, Nat.reduceLeDiff, Nat.zero_le, true_and, and_true, Option.some.injEq, Sum.inl.injEq, Sum.inr.injEq, true_or, or_true, and_self, q_sw]
    refine q_u1 (by decide) (c_min l _ y 0 1) ?_
    rw [decide_eq_false (fun z => h2 z)]
    first | refine ⟨fun _ => ?_, fun q => absurd q (by decide)⟩ | refine ⟨fun q => absurd q (by decide), fun _ => ?_⟩
    refine q_u1 (by decide) (c_mbY l S (w := 1) (r := 1) (by decide) (by decide)) ?_
    first | refine ⟨fun _ => ?_, fun q => absurd q (by decide)⟩ | refine ⟨fun q => absurd q (by decide), fun _ => ?_⟩
    first | rfl | exact ⟨rfl, rfl⟩ | trivial
theorem r_evening (l : Launch) {S : qSt} {a : AS} {B : Nat} (hR : RF S a) (hO : OKA a B) (x y : Int32) : RA l k_X11_evening [.inr (.inr (40, 0)), .inl x, .inl y] S (sp_even a x y) := by
  unfold sp_even
  by_cases h2 : (arC a x) ∧ (0 ≤ y ∧ y ≤ 1)
  · rw [spI_2 h2]
    have hp : (2 : Nat) ^ aY a 1 0 ≤ 2 ^ 6 := Nat.pow_le_pow_right (by decide) hO.1.2.1
    obtain ⟨u, hu, rfl⟩ := i_rng1 (m := 2 ^ aY a 1 0) (by omega) h2.1
    obtain ⟨n, hn, rfl⟩ := i_rng (m := 1) (by decide) h2.2.1 h2.2.2
    rw [i_cl (by omega), i_cl (by omega)]
    have hR0 := hR.th (v := 0)
    have gv := hO.v
    have hM := hR0.1
    have hV := hR0.2.2.2.1.2.1
    have h3 := hO.1.1
    have h6 := hO.1.2.1
    refine RA_k (d := 20) (by decide) hR ?_
    refine q_meth zoX11_evening q_fos (Nat.le_of_ble_eq_true rfl) ?_
    intro AT step
    have hu6 : u < 64 := Nat.lt_of_lt_of_le hu (Nat.pow_le_pow_right (n := 2) (by decide) h6)
    have k5 : ∀ r i S1, i + r = 29 → KK (q_wI S 40 0 0 0) S1 → EVb S1 none → (∀ j, j < i → q_I S1 65 1 j = 0) → AT 5 [some (.inr (.inr (40, 0))), some (.inl (nI u)), some (.inl (nI n)), some (.inl (nI i))] [] S1 := by
      intro r
      induction r with
      | zero =>
        intro i S1 hi hk he hz
        have hi : i = 29 := by omega
        subst hi
        have hR1 := RF_kk hR0 hk
        refine step 40 [(5, [true, true, true, true])] 5 _ _ _ ?_
        simp only [q_vcs, q_vcc, q_vl, q_vu, ↓reduceIte, Nat.reduceEqDiff, Bool.false_eq_true, q_isc, q_mk, q_msk, zbX11_evening, q_pad, q_ent, q_get, q_put, q_nl, q_w, List.cons_append, List.nil_append, q_aks, q_als, Nat.reduceAdd, Nat.reduceLeDiff, Nat.zero_le, true_and, and_true, Option.some.injEq, Sum.inl.injEq, Sum.inr.injEq, true_or, or_true, and_self, q_sw]
        refine ⟨fun _ => ?_, fun q => absurd (by decide) q⟩
        have hW : RW1 S1 1 nil3 := fun j hj => ⟨hz j (by omega), fun k hk => absurd hk (Nat.not_lt_zero _)⟩
        refine ⟨_, _, (by have := h6; omega : 2 + aY a 1 0 < 20), c_mcomeHome l hO.1 hu6 (aY a 1 0) 0 0 nil3 none S1 (by omega) (by decide) (p_nil (aY a)) (fun k x hx => by cases hx) hW hR1.1 he, fun S2 h => ?_⟩
        obtain ⟨g1, g2, g3⟩ := h
        rw [LV_evb hO.1 hu] at g2
        have hk2 := hk.tr g3.kk
        unfold evV
        rw [nI_z (n := n) (by omega)]
        refine ⟨fun e => ?_, fun e => ?_⟩
        · cases hv : evb (aY a) u (aY a 0 0 ^ pcn u) with
          | none => rw [hv] at g2; exact ⟨g2.2.1, hk2⟩
          | some v => rw [hv] at g2; dsimp only; rw [if_neg e]; exact ⟨g2.2.1, hk2⟩
        · cases hv : evb (aY a) u (aY a 0 0 ^ pcn u) with
          | none => rw [hv] at g2; exact ⟨g2.1, hk2⟩
          | some v => rw [hv] at g2; dsimp only; rw [if_pos e]; exact ⟨g2.1, hk2⟩
      | succ r ih =>
        intro i S1 hi hk he hz
        refine step 40 [(5, [true, true, true, true])] 5 _ _ _ ?_
        simp only [q_vcs, q_vcc, q_vl, q_vu, ↓reduceIte, Nat.reduceEqDiff, Bool.false_eq_true, q_isc, q_mk, q_msk, zbX11_evening, q_pad, q_ent, q_get, q_put, q_nl, q_w, List.cons_append, List.nil_append, q_aks, q_als, Nat.reduceAdd, Nat.reduceLeDiff, Nat.zero_le, true_and, and_true, Option.some.injEq, Sum.inl.injEq, Sum.inr.injEq, true_or, or_true, and_self, q_sw]
        rw [show (29 : Int32) = nI 29 from rfl, nI_leI (by decide) (by omega), i_cl (by omega), nI_1]
        refine ⟨fun q => absurd q (by omega), fun _ => ⟨i_in (by omega) (by decide), ?_⟩⟩
        have hf : fr (Fm 1) S1 (q_wI S1 65 1 i 0) := fr.wI fr.rf ⟨rfl, rfl⟩
        refine ih (i + 1) _ (by omega) (hk.tr (KK.m hf)) (he.row hf) (fun j hj => ?_)
        rw [q_I_wI]
        by_cases e : j = i
        · rw [if_pos ⟨rfl, rfl, e⟩]
        · rw [if_neg (fun z => e z.2.2)]; exact hz j (by omega)
    have kc : AT 4 [some (.inr (.inr (40, 0))), some (.inl (nI u)), some (.inl (nI n)), none] [] (q_wI S 40 0 0 0) := by
      refine step 40 [(4, [true, true, true, true]), (5, [true, true, true, true])] 4 _ _ _ ?_
      simp only [q_vcs, q_vcc, q_vl, q_vu, ↓reduceIte, Nat.reduceEqDiff, Bool.false_eq_true, q_isc, q_mk, q_msk, zbX11_evening, q_pad, q_ent, q_get, q_put, q_nl, q_w, List.cons_append, List.nil_append, q_aks, q_als, Nat.reduceAdd, Nat.reduceLeDiff, Nat.zero_le, true_and, and_true, Option.some.injEq, Sum.inl.injEq, Sum.inr.injEq, true_or, or_true, and_self, q_sw]
      refine k5 29 0 _ (by decide) ((KK.rf.w (by decide)).w (by decide)) ⟨?_, ?_, fun v e => by cases e⟩ (fun j hj => absurd hj (Nat.not_lt_zero _))
      · rfl
      · rfl
    refine step 40 [(4, [true, true, true, true])] 0 _ _ _ ?_
    simp only [q_vcs, q_vcc, q_vl, q_vu, ↓reduceIte, Nat.reduceEqDiff, Bool.false_eq_true, q_isc, q_mk, q_msk, zbX11_evening, q_pad, q_ent, q_get, q_put, q_nl, q_w, List.cons_append, List.nil_append, q_aks, q_als, Nat.reduceAdd, Nat.reduceLeDiff, Nat.zero_le, true_and, and_true, Option.some.injEq, Sum.inl.injEq, Sum.inr.injEq, true_or, or_true, and_self, q_sw]
    refine q_u1 (by decide) (c_mareCars l _ hO.1 (hR.th (v := 0)).1 (nI u)) ?_
    rw [show decide (0 ≤ (nI u) ∧ (nI u) ≤ nI (2 ^ aY a 1 0) - 1) = true from decide_eq_true h2.1]
    first | refine ⟨fun _ => ?_, fun q => absurd q (by decide)⟩ | refine ⟨fun q => absurd q (by decide), fun _ => ?_⟩
    refine q_u1 (by decide) (c_min l _ (nI n) 0 1) ?_
    rw [decide_eq_true h2.2]
    first | refine ⟨fun _ => ?_, fun q => absurd q (by decide)⟩ | refine ⟨fun q => absurd q (by decide), fun _ => ?_⟩
    refine q_u1 (by decide) (c_mbN l S (w := 1) (r := 1) (by decide) (by decide)) ?_
    first | refine ⟨fun _ => ?_, fun q => absurd q (by decide)⟩ | refine ⟨fun q => absurd q (by decide), fun _ => ?_⟩
    exact kc
  · rw [spI_1 h2]
    refine RA_i (d := 20) (by decide) hR ?_
    refine q_meth zoX11_evening q_fos (Nat.le_of_ble_eq_true rfl) ?_
    intro AT step
    refine step 40 [(4, [true, true, true, true])] 0 _ _ _ ?_
    simp only [q_vcs, q_vcc, q_vl, q_vu, ↓reduceIte, Nat.reduceEqDiff, Bool.false_eq_true, q_isc, q_mk, q_msk, zbX11_evening, q_pad, q_ent, q_get, q_put, q_nl, q_w, List.cons_append, List.nil_append, q_aks, q_als, Nat.reduceAdd, Nat.reduceLeDiff, Nat.zero_le, true_and, and_true, Option.some.injEq, Sum.inl.injEq, Sum.inr.injEq, true_or, or_true, and_self, q_sw]
    refine q_u1 (by decide) (c_mareCars l _ hO.1 (hR.th (v := 0)).1 x) ?_
    by_cases k0 : arC a x
    · rw [show decide (0 ≤ x ∧ x ≤ nI (2 ^ aY a 1 0) - 1) = true from decide_eq_true k0]
      first | refine ⟨fun _ => ?_, fun q => absurd q (by decide)⟩ | refine ⟨fun q => absurd q (by decide), fun _ => ?_⟩
      refine q_u1 (by decide) (c_min l _ y 0 1) ?_
      rw [decide_eq_false (fun z => h2 ⟨k0, z⟩)]
      first | refine ⟨fun _ => ?_, fun q => absurd q (by decide)⟩ | refine ⟨fun q => absurd q (by decide), fun _ => ?_⟩
      refine q_u1 (by decide) (c_mbY l S (w := 1) (r := 1) (by decide) (by decide)) ?_
      first | refine ⟨fun _ => ?_, fun q => absurd q (by decide)⟩ | refine ⟨fun q => absurd q (by decide), fun _ => ?_⟩
      first | rfl | exact ⟨rfl, rfl⟩ | trivial
    · rw [show decide (0 ≤ x ∧ x ≤ nI (2 ^ aY a 1 0) - 1) = false from decide_eq_false k0]
      first | refine ⟨fun _ => ?_, fun q => absurd q (by decide)⟩ | refine ⟨fun q => absurd q (by decide), fun _ => ?_⟩
      refine q_u1 (by decide) (c_mbY l S (w := 1) (r := 1) (by decide) (by decide)) ?_
      first | refine ⟨fun _ => ?_, fun q => absurd q (by decide)⟩ | refine ⟨fun q => absurd q (by decide), fun _ => ?_⟩
      first | rfl | exact ⟨rfl, rfl⟩ | trivial
