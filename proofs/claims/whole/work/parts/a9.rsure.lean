/-! The reference's questions: sure, goes -/
theorem r_sure (l : Launch) {S : qSt} {a : AS} {B : Nat} (hR : RF S a) (hO : OKA a B) (x q y : Int32) : RA l k_X11_sure [.inr (.inr (40, 0)), .inl x, .inl q, .inl y] S (sp_sure a x q y) := by
  unfold sp_sure
  by_cases h1 : isCr a x
  · by_cases h2 : (0 ≤ q ∧ q ≤ 16) ∧ (0 ≤ y ∧ y ≤ 1)
    · rw [spK_3 h1 h2]
      have h69 := hO.1.2.1
      obtain ⟨k, hk, rfl⟩ := isCr_ex hO h1
      obtain ⟨q, hq, rfl⟩ := i_rng (m := 16) (by decide) h2.1.1 h2.1.2
      obtain ⟨n, hn, rfl⟩ := i_rng (m := 1) (by decide) h2.2.1 h2.2.2
      rw [i_cl (by omega), i_cl (by omega), i_cl (by omega)]
      have gv0 := hO.v
      have hb := bo_lt (ahd_lt gv0.1.1 k)
      have hm : (ahd (aV a).1 k).length ≤ 6 := nd_len (ahd_nd gv0.1 k) (ahd_lt gv0.1.1 k)
      have epc : fa_cnt (fun i => (bo (ahd (aV a).1 k)).testBit i) 6 = (ahd (aV a).1 k).length := by rw [← pcn6 hb]; exact pcn_bo (ahd_nd gv0.1 k) (ahd_lt gv0.1.1 k)
      generalize (ahd (aV a).1 k).length = m at hm epc ⊢
      have hR0 := hR.th (v := 0)
      have gv := hO.v
      have hM := hR0.1
      have hV := hR0.2.2.2.1.2.1
      have h3 := hO.1.1
      have h6 := hO.1.2.1
      refine RA_s (d := 20) (by decide) hR ?_
      refine q_meth zoX11_sure q_fos (Nat.le_of_ble_eq_true rfl) ?_
      intro AT step
      obtain ⟨pw1, pw2⟩ := pw_tab m (by omega) q (by omega)
      have hG : 0 < Nat.gcd (16 ^ m) (q ^ m) := Nat.gcd_pos_of_pos_left _ (Nat.pow_pos (by decide))
      have hGle : Nat.gcd (16 ^ m) (q ^ m) ≤ 16 ^ m := Nat.gcd_le_left _ (Nat.pow_pos (by decide))
      have k12 : ∀ r B A, B ≤ r → A < 2 ^ 31 → B < 2 ^ 31 → Nat.gcd A B = Nat.gcd (16 ^ m) (q ^ m) → AT 12 [some (.inr (.inr (40, 0))), some (.inl (nI k)), some (.inl (nI q)), some (.inl (nI n)), some (.inl (nI (q ^ m))), some (.inl (nI (16 ^ m))), some (.inl (nI A)), some (.inl (nI B)), none] [] (q_wI S 40 0 0 0) := by
        intro r
        induction r with
        | zero =>
          intro B A hr hA hB he
          have hB0 : B = 0 := Nat.le_zero.mp hr
          subst hB0
          rw [Nat.gcd_zero_right] at he
          subst he
          refine step 40 [(7, [true, true, true, true, true, true, true, true, true]), (8, [true, true, true, true, true, true, true, false, false]), (12, [true, true, true, true, true, true, true, true, false])] 12 _ _ _ ?_
          simp only [q_vcs, q_vcc, q_vl, q_vu, ↓reduceIte, Nat.reduceEqDiff, Bool.false_eq_true, q_isc, q_mk, q_msk, zbX11_sure, q_pad, q_ent, q_get, q_put, q_nl, q_w, List.cons_append, List.nil_append, q_aks, q_als, Nat.reduceAdd, Nat.reduceLeDiff, Nat.zero_le, true_and, and_true, Option.some.injEq, Sum.inl.injEq, Sum.inr.injEq, true_or, or_true, and_self, q_sw]
          have hd0 : ¬ nI (Nat.gcd (16 ^ m) (q ^ m)) = 0 := fun z => by rw [nI_z hA] at z; omega
          rw [nI_z (n := n) (by omega), i_div (a := q ^ m) (by omega) hG (by omega), i_div (a := 16 ^ m) (by omega) hG (by omega)]
          unfold suV
          refine ⟨fun _ => ⟨fun e => ⟨hd0, ?_⟩, fun e => ⟨hd0, ?_⟩⟩, fun z => absurd rfl z⟩
          · rw [if_neg e]
          · rw [if_pos e]
        | succ r ih =>
          intro B A hr hA hB he
          by_cases hB0 : B = 0
          · exact ih B A (by omega) hA hB he
          · have hB1 := hB0
            refine step 40 [(7, [true, true, true, true, true, true, true, true, true]), (8, [true, true, true, true, true, true, true, false, false]), (12, [true, true, true, true, true, true, true, true, false])] 12 _ _ _ ?_
            simp only [q_vcs, q_vcc, q_vl, q_vu, ↓reduceIte, Nat.reduceEqDiff, Bool.false_eq_true, q_isc, q_mk, q_msk, zbX11_sure, q_pad, q_ent, q_get, q_put, q_nl, q_w, List.cons_append, List.nil_append, q_aks, q_als, Nat.reduceAdd, Nat.reduceLeDiff, Nat.zero_le, true_and, and_true, Option.some.injEq, Sum.inl.injEq, Sum.inr.injEq, true_or, or_true, and_self, q_sw]
            have hd0 : ¬ nI B = 0 := fun z => by rw [nI_z hB] at z; omega
            refine ⟨fun z => absurd z hd0, fun _ => ⟨hd0, ?_⟩⟩
            first | rw [i_rem hA (by omega) hB] | rw [pk_rem hA (by omega) hB]
            have hlt := Nat.mod_lt A (show B > 0 by omega)
            refine ih (A % B) B (by omega) hB (by omega) ?_
            rw [← he, Nat.gcd_comm B (A % B), ← Nat.gcd_rec B A, Nat.gcd_comm]
      have k8 : ∀ r i, i + r = 6 → AT 8 [some (.inr (.inr (40, 0))), some (.inl (nI k)), some (.inl (nI q)), some (.inl (nI n)), some (.inl (nI (q ^ fa_cnt (fun i => (bo (ahd (aV a).1 k)).testBit i) i))), some (.inl (nI (16 ^ fa_cnt (fun i => (bo (ahd (aV a).1 k)).testBit i) i))), some (.inl (nI i)), none, none] [] (q_wI S 40 0 0 0) := by
        intro r
        induction r with
        | zero =>
          intro i hi
          have hi : i = 6 := by omega
          subst hi
          rw [epc]
          have kk := k12 (q ^ m) (q ^ m) (16 ^ m) (Nat.le_refl _) (by omega) (by omega) rfl
          refine step 40 [(7, [true, true, true, true, true, true, true, true, true]), (8, [true, true, true, true, true, true, true, false, false]), (12, [true, true, true, true, true, true, true, true, false])] 8 _ _ _ ?_
          simp only [q_vcs, q_vcc, q_vl, q_vu, ↓reduceIte, Nat.reduceEqDiff, Bool.false_eq_true, q_isc, q_mk, q_msk, zbX11_sure, q_pad, q_ent, q_get, q_put, q_nl, q_w, List.cons_append, List.nil_append, q_aks, q_als, Nat.reduceAdd, Nat.reduceLeDiff, Nat.zero_le, true_and, and_true, Option.some.injEq, Sum.inl.injEq, Sum.inr.injEq, true_or, or_true, and_self, q_sw]
          exact ⟨fun _ => kk, fun z => absurd (by decide) z⟩
        | succ r ih =>
          intro i hi
          have ih := ih (i + 1) (by omega)
          rw [fa_cnt] at ih
          refine step 40 [(7, [true, true, true, true, true, true, true, true, true]), (8, [true, true, true, true, true, true, true, false, false]), (12, [true, true, true, true, true, true, true, true, false])] 8 _ _ _ ?_
          simp only [q_vcs, q_vcc, q_vl, q_vu, ↓reduceIte, Nat.reduceEqDiff, Bool.false_eq_true, q_isc, q_mk, q_msk, zbX11_sure, q_pad, q_ent, q_get, q_put, q_nl, q_w, List.cons_append, List.nil_append, q_aks, q_als, Nat.reduceAdd, Nat.reduceLeDiff, Nat.zero_le, true_and, and_true, Option.some.injEq, Sum.inl.injEq, Sum.inr.injEq, true_or, or_true, and_self, q_sw]
          rw [show (6 : Int32) = nI 6 from rfl, nI_leI (by decide) (by omega), nI_1]
          refine ⟨fun z => absurd z (by omega), fun _ => ?_⟩
          refine q_u1 (by decide) (c_maheadOf l _ hO.1 hM gv.1 hV.1 (c := k) (by omega)) ?_
          refine q_u1 (by decide) (c_mhas l _ (n := bo (ahd (aV a).1 k)) (k := i) (by omega) (by omega)) ?_
          rw [bI_0]
          refine ⟨fun e => ?_, fun e => ?_⟩
          · rw [if_pos (by simpa using e)] at ih
            rw [show (16 : Int32) = nI 16 from rfl, pk_mul, pk_mul]
            exact ih
          · rw [if_neg (by rw [e]; simp)] at ih
            exact ih
      have kc : AT 7 [some (.inr (.inr (40, 0))), some (.inl (nI k)), some (.inl (nI q)), some (.inl (nI n)), none, none, none, none, none] [] (q_wI S 40 0 0 0) := by
        refine step 40 [(7, [true, true, true, true, true, true, true, true, true]), (8, [true, true, true, true, true, true, true, false, false]), (12, [true, true, true, true, true, true, true, true, false])] 7 _ _ _ ?_
        simp only [q_vcs, q_vcc, q_vl, q_vu, ↓reduceIte, Nat.reduceEqDiff, Bool.false_eq_true, q_isc, q_mk, q_msk, zbX11_sure, q_pad, q_ent, q_get, q_put, q_nl, q_w, List.cons_append, List.nil_append, q_aks, q_als, Nat.reduceAdd, Nat.reduceLeDiff, Nat.zero_le, true_and, and_true, Option.some.injEq, Sum.inl.injEq, Sum.inr.injEq, true_or, or_true, and_self, q_sw]
        exact k8 6 0 (by decide)
      refine step 40 [(7, [true, true, true, true, true, true, true, true, true])] 0 _ _ _ ?_
      simp only [q_vcs, q_vcc, q_vl, q_vu, ↓reduceIte, Nat.reduceEqDiff, Bool.false_eq_true, q_isc, q_mk, q_msk, zbX11_sure, q_pad, q_ent, q_get, q_put, q_nl, q_w, List.cons_append, List.nil_append, q_aks, q_als, Nat.reduceAdd, Nat.reduceLeDiff, Nat.zero_le, true_and, and_true, Option.some.injEq, Sum.inl.injEq, Sum.inr.injEq, true_or, or_true, and_self, q_sw]
      refine q_u1 (by decide) (c_misCar l _ (hR.th (v := 0)).1 _) ?_
      rw [show decide (0 ≤ (nI k) ∧ (nI k) ≤ nI (aY a 1 0) - 1) = true from decide_eq_true h1]
      first | refine ⟨fun _ => ?_, fun q => absurd q (by decide)⟩ | refine ⟨fun q => absurd q (by decide), fun _ => ?_⟩
      refine q_u1 (by decide) (c_mbN l S (w := 1) (r := 0) (by decide) (by decide)) ?_
      first | refine ⟨fun _ => ?_, fun q => absurd q (by decide)⟩ | refine ⟨fun q => absurd q (by decide), fun _ => ?_⟩
      refine q_u1 (by decide) (c_min l _ (nI q) 0 16) ?_
      rw [decide_eq_true h2.1]
      first | refine ⟨fun _ => ?_, fun q => absurd q (by decide)⟩ | refine ⟨fun q => absurd q (by decide), fun _ => ?_⟩
      refine q_u1 (by decide) (c_min l _ (nI n) 0 1) ?_
      rw [decide_eq_true h2.2]
      first | refine ⟨fun _ => ?_, fun q => absurd q (by decide)⟩ | refine ⟨fun q => absurd q (by decide), fun _ => ?_⟩
      refine q_u1 (by decide) (c_mbN l S (w := 2) (r := 1) (by decide) (by decide)) ?_
      first | refine ⟨fun _ => ?_, fun q => absurd q (by decide)⟩ | refine ⟨fun q => absurd q (by decide), fun _ => ?_⟩
      exact kc
    · rw [spK_2 h1 h2]
      refine RA_i (d := 20) (by decide) hR ?_
      refine q_meth zoX11_sure q_fos (Nat.le_of_ble_eq_true rfl) ?_
      intro AT step
      refine step 40 [(7, [true, true, true, true, true, true, true, true, true])] 0 _ _ _ ?_
      simp only [q_vcs, q_vcc, q_vl, q_vu, ↓reduceIte, Nat.reduceEqDiff, Bool.false_eq_true, q_isc, q_mk, q_msk, zbX11_sure, q_pad, q_ent, q_get, q_put, q_nl, q_w, List.cons_append, List.nil_append, q_aks, q_als, Nat.reduceAdd, Nat.reduceLeDiff, Nat.zero_le, true_and, and_true, Option.some.injEq, Sum.inl.injEq, Sum.inr.injEq, true_or, or_true, and_self, q_sw]
      refine q_u1 (by decide) (c_misCar l _ (hR.th (v := 0)).1 _) ?_
      rw [show decide (0 ≤ x ∧ x ≤ nI (aY a 1 0) - 1) = true from decide_eq_true h1]
      first | refine ⟨fun _ => ?_, fun q => absurd q (by decide)⟩ | refine ⟨fun q => absurd q (by decide), fun _ => ?_⟩
      refine q_u1 (by decide) (c_mbN l S (w := 1) (r := 0) (by decide) (by decide)) ?_
      first | refine ⟨fun _ => ?_, fun q => absurd q (by decide)⟩ | refine ⟨fun q => absurd q (by decide), fun _ => ?_⟩
      refine q_u1 (by decide) (c_min l _ q 0 16) ?_
      by_cases k0 : 0 ≤ q ∧ q ≤ 16
      · rw [decide_eq_true k0]
        first | refine ⟨fun _ => ?_, fun q => absurd q (by decide)⟩ | refine ⟨fun q => absurd q (by decide), fun _ => ?_⟩
        refine q_u1 (by decide) (c_min l _ y 0 1) ?_
        rw [decide_eq_false (fun z => h2 ⟨k0, z⟩)]
        first | refine ⟨fun _ => ?_, fun q => absurd q (by decide)⟩ | refine ⟨fun q => absurd q (by decide), fun _ => ?_⟩
        refine q_u1 (by decide) (c_mbY l S (w := 2) (r := 1) (by decide) (by decide)) ?_
        first | refine ⟨fun _ => ?_, fun q => absurd q (by decide)⟩ | refine ⟨fun q => absurd q (by decide), fun _ => ?_⟩
        first | rfl | exact ⟨rfl, rfl⟩ | trivial
      · rw [decide_eq_false k0]
        first | refine ⟨fun _ => ?_, fun q => absurd q (by decide)⟩ | refine ⟨fun q => absurd q (by decide), fun _ => ?_⟩
        refine q_u1 (by decide) (c_mbY l S (w := 2) (r := 1) (by decide) (by decide)) ?_
        first | refine ⟨fun _ => ?_, fun q => absurd q (by decide)⟩ | refine ⟨fun q => absurd q (by decide), fun _ => ?_⟩
        first | rfl | exact ⟨rfl, rfl⟩ | trivial
  · rw [spK_1 h1]
    refine RA_n (d := 20) (by decide) hR ?_
    refine q_meth zoX11_sure q_fos (Nat.le_of_ble_eq_true rfl) ?_
    intro AT step
    refine step 40 [(7, [true, true, true, true, true, true, true, true, true])] 0 _ _ _ ?_
    simp only [q_vcs, q_vcc, q_vl, q_vu, ↓reduceIte, Nat.reduceEqDiff, Bool.false_eq_true, q_isc, q_mk, q_msk, zbX11_sure, q_pad, q_ent, q_get, q_put, q_nl, q_w, List.cons_append, List.nil_append, q_aks, q_als, Nat.reduceAdd, Nat.reduceLeDiff, Nat.zero_le, true_and, and_true, Option.some.injEq, Sum.inl.injEq, Sum.inr.injEq, true_or, or_true, and_self, q_sw]
    refine q_u1 (by decide) (c_misCar l _ (hR.th (v := 0)).1 _) ?_
    rw [show decide (0 ≤ x ∧ x ≤ nI (aY a 1 0) - 1) = false from decide_eq_false h1]
    first | refine ⟨fun _ => ?_, fun q => absurd q (by decide)⟩ | refine ⟨fun q => absurd q (by decide), fun _ => ?_⟩
    refine q_u1 (by decide) (c_mbY l S (w := 1) (r := 0) (by decide) (by decide)) ?_
    first | refine ⟨fun _ => ?_, fun q => absurd q (by decide)⟩ | refine ⟨fun q => absurd q (by decide), fun _ => ?_⟩
    first | rfl | exact ⟨rfl, rfl⟩ | trivial
theorem r_goes (l : Launch) {S : qSt} {a : AS} {B : Nat} (hR : RF S a) (hO : OKA a B) (x : Int32) : RA l k_X11_goes [.inr (.inr (40, 0)), .inl x] S (sp_goes a x) := by
  unfold sp_goes
  by_cases h1 : isCr a x
  · rw [spK_3 h1 trivial]
    obtain ⟨k, hk, rfl⟩ := isCr_ex hO h1
    rw [i_cl (by have := hO.1.2.1; omega)]
    have hR0 := hR.th (v := 0)
    have gv := hO.v
    have hM := hR0.1
    have hV := hR0.2.2.2.1.2.1
    have h3 := hO.1.1
    have h6 := hO.1.2.1
    refine RA_k (d := 20) (by decide) hR ?_
    refine q_meth zoX11_goes q_fos (Nat.le_of_ble_eq_true rfl) ?_
    intro AT step
    have k8N : ∀ (j f : Nat) S1, KK (q_wI S 40 0 0 0) S1 → gos (aY a) (aV a).1 k = false → AT 8 [some (.inr (.inr (40, 0))), some (.inl (nI k)), some (.inl (nI j)), some (.inl (nI f)), some (.inl (nI (aY a 0 0)))] [] S1 := by
      intro j f S1 hk1 hg
      have hR1 := RF_kk hR0 hk1
      refine step 40 [(3, [true, true, true, true, true]), (5, [true, true, true, false, false]), (6, [true, true, true, true, true]), (8, [true, true, true, true, true])] 8 _ _ _ ?_
      simp only [q_vcs, q_vcc, q_vl, q_vu, ↓reduceIte, Nat.reduceEqDiff, Bool.false_eq_true, q_isc, q_mk, q_msk, zbX11_goes, q_pad, q_ent, q_get, q_put, q_nl, q_w, List.cons_append, List.nil_append, q_aks, q_als, Nat.reduceAdd, Nat.reduceLeDiff, Nat.zero_le, true_and, and_true, Option.some.injEq, Sum.inl.injEq, Sum.inr.injEq, true_or, or_true, and_self, q_sw]
      rw [show q_I S1 44 0 (Int32.toNatClampNeg 0) = nI (aY a 0 0) from hR1.1.1, hg]
      exact ⟨i_in (k := 0) (by decide) (by decide), fun _ => ⟨rfl, hk1⟩, fun q => absurd rfl q⟩
    have k5 : ∀ j, j < 3 → ∀ (fs t : List Nat) (Q : Nat → List Nat) S1, lnof (aV a).1 k = some j → p_ok (aY a) Q → Q j = fs ++ k :: t → RW1 S1 1 Q → KK (q_wI S 40 0 0 0) S1 → (fs.all (fun f => (kyt (aY a) k).testBit f) && gzl (aY a) j fs Q) = gos (aY a) (aV a).1 k → AT 5 [some (.inr (.inr (40, 0))), some (.inl (nI k)), some (.inl (nI j)), none, none] [] S1 := by
      intro j hj3 fs
      have hjY : lnof (aV a).1 k = some j → j < aY a 0 0 := fun h => by
        have h1 := (lnof_lt h).2
        by_cases q : j < aY a 0 0
        · exact q
        · rw [gv.1.2.1 j (by omega)] at h1; cases h1
      induction fs with
      | nil =>
        intro t Q S1 hl hQ hs hr hk1 hg
        refine step 40 [(3, [true, true, true, true, true]), (5, [true, true, true, false, false]), (6, [true, true, true, true, true]), (8, [true, true, true, true, true])] 5 _ _ _ ?_
        simp only [q_vcs, q_vcc, q_vl, q_vu, ↓reduceIte, Nat.reduceEqDiff, Bool.false_eq_true, q_isc, q_mk, q_msk, zbX11_goes, q_pad, q_ent, q_get, q_put, q_nl, q_w, List.cons_append, List.nil_append, q_aks, q_als, Nat.reduceAdd, Nat.reduceLeDiff, Nat.zero_le, true_and, and_true, Option.some.injEq, Sum.inl.injEq, Sum.inr.injEq, true_or, or_true, and_self, q_sw]
        refine q_u1 (by decide) (c_mfrontOf l S1 hQ.1 hr hj3) ?_
        rw [hs, ← hg]
        exact ⟨fun _ => ⟨rfl, hk1⟩, fun q => absurd rfl q⟩
      | cons f fs ihf =>
        intro t Q S1 hl hQ hs hr hk1 hg
        have hj := hjY hl
        have hR1 := RF_kk hR0 hk1
        have hhead : (Q j).head? = some f := by rw [hs]; rfl
        have hf6 : f < 6 := (st_row hQ.1 hj3).2 f (by rw [hs]; simp)
        have hfY : f < aY a 1 0 := hQ.2.2.1 j f (by rw [hs]; simp)
        have hnd := p_nd hQ hj3
        have hfk : f ≠ k := fun e => by
          rw [hs, List.cons_append, List.nodup_cons] at hnd
          exact hnd.1 (by rw [e]; simp)
        have hlg : lgt (aY a) f < 2 ^ 20 := by
          have := (hO.1.2.2.2.2 f hfY)
          unfold lgt
          rw [if_pos hfY]
          have := this.1
          omega
        have hgz : gzl (aY a) j (f :: fs) Q = (match fol (aY a) Q j (lgt (aY a) f) with | none => false | some b => gzl (aY a) j fs (mvc Q j b f)) := rfl
        have found : ∀ b, fol (aY a) Q j (lgt (aY a) f) = some b → AT 8 [some (.inr (.inr (40, 0))), some (.inl (nI k)), some (.inl (nI j)), some (.inl (nI f)), some (.inl (nI b))] [] S1 := by
          intro b hb
          obtain ⟨b1, b2, b3⟩ := fol_lt hb
          have hmv := p_mv hO.1 hQ hj3 b1 hhead
          have hne := head_ne hhead
          have hlen : 0 < (Q j).length := by rw [hs]; simp
          have h6a := (st_row hQ.1 hj3).1
          have hkey : q_I S1 48 0 k = nI (kyt (aY a) k) := by
            unfold kyt
            rw [if_pos hk]
            exact (hR1.1.2.2.2.2 k hk).2.2.2
          refine step 40 [(3, [true, true, true, true, true]), (5, [true, true, true, false, false]), (6, [true, true, true, true, true]), (8, [true, true, true, true, true])] 8 _ _ _ ?_
          simp only [q_vcs, q_vcc, q_vl, q_vu, ↓reduceIte, Nat.reduceEqDiff, Bool.false_eq_true, q_isc, q_mk, q_msk, zbX11_goes, q_pad, q_ent, q_get, q_put, q_nl, q_w, List.cons_append, List.nil_append, q_aks, q_als, Nat.reduceAdd, Nat.reduceLeDiff, Nat.zero_le, true_and, and_true, Option.some.injEq, Sum.inl.injEq, Sum.inr.injEq, true_or, or_true, and_self, q_sw]
          rw [show q_I S1 44 0 (Int32.toNatClampNeg 0) = nI (aY a 0 0) from hR1.1.1, nI_eq (by omega) (by omega)]
          refine ⟨i_in (k := 0) (by decide) (by decide), fun q => absurd q (by omega), fun _ => ⟨i_in (by omega) (by decide), ?_⟩⟩
          rw [i_cl (by omega), hkey]
          have hkl := kyt_lt hO.1 (Y := aY a) k
          refine q_u1 (by decide) (c_mhas l S1 (n := kyt (aY a) k) (k := f) (by omega) (by omega)) ?_
          rw [bI_0]
          have htr : (kyt (aY a) k).testBit f = true → gos (aY a) (aV a).1 k = (fs.all (fun f => (kyt (aY a) k).testBit f) && gzl (aY a) j fs (mvc Q j b f)) := fun e => by
            rw [← hg, List.all_cons, hgz, hb, e, Bool.true_and]
          refine ⟨fun e => ?_, fun e => ?_⟩
          · have e : (kyt (aY a) k).testBit f = true := by simpa using e
            rw [Int32.zero_add, i_cl (by omega), (hr j hj3).1]
            have e1 : nI (Q j).length - 1 = nI ((Q j).length - 1) := by
              have := i_m1 ((Q j).length - 1)
              rwa [Nat.sub_add_cancel hlen] at this
            rw [e1]
            have r3 := rw1_out hQ.1 hr hj3 hne
            have f3 : fr (Fm 1) S1 (q_wI S1 65 1 j (nI ((Q j).length - 1))) := fr.wI fr.rf ⟨rfl, rfl⟩
            refine ⟨i_in (by omega) (by decide), i_in (by omega) (by decide), ?_⟩
            refine ⟨_, _, (by decide : 0 < 20), c_mcomesTo l _ (c := f) hmv.2.2.1 r3 (show b < 3 by omega) hmv.2.1, fun S4 h4 => ?_⟩
            refine ihf t (mvc Q j b f) S4 hl hmv.1 ?_ h4.1 (hk1.tr (KK.m (f3.tr h4.2.2))) (htr e).symm
            unfold mvc
            rw [sp_ne (fun z => b2 z.symm), sp_eq, hs]
            rfl
          · have : gos (aY a) (aV a).1 k = false := by rw [← hg, List.all_cons, e, Bool.false_and, Bool.false_and]
            rw [this]
            exact ⟨rfl, hk1⟩
        have k6 : ∀ r i, i + r = aY a 0 0 → (List.range' i r).find? (fun k => decide (k ≠ j ∧ (lgt (aY a) f : Int) ≤ rmZ (aY a) Q k)) = fol (aY a) Q j (lgt (aY a) f) → AT 6 [some (.inr (.inr (40, 0))), some (.inl (nI k)), some (.inl (nI j)), some (.inl (nI f)), some (.inl (nI i))] [] S1 := by
          intro r
          induction r with
          | zero =>
            intro i hi hfd
            have hi : i = aY a 0 0 := by omega
            subst hi
            have := k8N j f S1 hk1 (by rw [← hg, hgz, ← hfd]; simp)
            refine step 40 [(3, [true, true, true, true, true]), (5, [true, true, true, false, false]), (6, [true, true, true, true, true]), (8, [true, true, true, true, true])] 6 _ _ _ ?_
            simp only [q_vcs, q_vcc, q_vl, q_vu, ↓reduceIte, Nat.reduceEqDiff, Bool.false_eq_true, q_isc, q_mk, q_msk, zbX11_goes, q_pad, q_ent, q_get, q_put, q_nl, q_w, List.cons_append, List.nil_append, q_aks, q_als, Nat.reduceAdd, Nat.reduceLeDiff, Nat.zero_le, true_and, and_true, Option.some.injEq, Sum.inl.injEq, Sum.inr.injEq, true_or, or_true, and_self, q_sw]
            rw [show q_I S1 44 0 (Int32.toNatClampNeg 0) = nI (aY a 0 0) from hR1.1.1, nI_leI (by omega) (by omega)]
            exact ⟨i_in (k := 0) (by decide) (by decide), fun _ => this, fun q => absurd (Nat.le_refl _) q⟩
          | succ r ih =>
            intro i hi hfd
            rw [List.range'_succ, List.find?_cons] at hfd
            have hcar := (hR1.1.2.2.2.2 f hfY).1
            have ih := ih (i + 1) (by omega)
            refine step 40 [(3, [true, true, true, true, true]), (5, [true, true, true, false, false]), (6, [true, true, true, true, true]), (8, [true, true, true, true, true])] 6 _ _ _ ?_
            simp only [q_vcs, q_vcc, q_vl, q_vu, ↓reduceIte, Nat.reduceEqDiff, Bool.false_eq_true, q_isc, q_mk, q_msk, zbX11_goes, q_pad, q_ent, q_get, q_put, q_nl, q_w, List.cons_append, List.nil_append, q_aks, q_als, Nat.reduceAdd, Nat.reduceLeDiff, Nat.zero_le, true_and, and_true, Option.some.injEq, Sum.inl.injEq, Sum.inr.injEq, true_or, or_true, and_self, q_sw]
            rw [show q_I S1 44 0 (Int32.toNatClampNeg 0) = nI (aY a 0 0) from hR1.1.1, nI_leI (by omega) (by omega), nI_eq (by omega) (by omega), nI_1]
            refine ⟨i_in (k := 0) (by decide) (by decide), fun q => absurd q (by omega), fun _ => ⟨fun e => ?_, fun e => ?_⟩⟩
            · rw [show decide (i ≠ j ∧ (lgt (aY a) f : Int) ≤ rmZ (aY a) Q i) = false from decide_eq_false (fun z => z.1 e)] at hfd
              exact ih hfd
            · refine q_u1 (by decide) (c_mroomOf l S1 hO.1 hR1.1 hQ hr (show i < aY a 0 0 by omega)) ?_
              rw [i_cl (by omega), show q_I S1 52 f (Int32.toNatClampNeg 0) = nI (lgt (aY a) f) by unfold lgt; rw [if_pos hfY]; exact hcar, rmI_le hO.1 hQ.1 (show i < 3 by omega) (by omega)]
              refine ⟨i_in (by omega) (by decide), i_in (k := 0) (by decide) (by decide), fun q => ?_, fun q => ?_⟩
              · rw [show decide (i ≠ j ∧ (lgt (aY a) f : Int) ≤ rmZ (aY a) Q i) = true from decide_eq_true ⟨e, q⟩] at hfd
                exact found i hfd.symm
              · rw [show decide (i ≠ j ∧ (lgt (aY a) f : Int) ≤ rmZ (aY a) Q i) = false from decide_eq_false (fun z => q z.2)] at hfd
                exact ih hfd
        have k60 := k6 (aY a 0 0) 0 (by omega) (by unfold fol; rw [List.range_eq_range'])
        refine step 40 [(3, [true, true, true, true, true]), (5, [true, true, true, false, false]), (6, [true, true, true, true, true]), (8, [true, true, true, true, true])] 5 _ _ _ ?_
        simp only [q_vcs, q_vcc, q_vl, q_vu, ↓reduceIte, Nat.reduceEqDiff, Bool.false_eq_true, q_isc, q_mk, q_msk, zbX11_goes, q_pad, q_ent, q_get, q_put, q_nl, q_w, List.cons_append, List.nil_append, q_aks, q_als, Nat.reduceAdd, Nat.reduceLeDiff, Nat.zero_le, true_and, and_true, Option.some.injEq, Sum.inl.injEq, Sum.inr.injEq, true_or, or_true, and_self, q_sw]
        refine q_u1 (by decide) (c_mfrontOf l S1 hQ.1 hr hj3) ?_
        rw [hhead, show oI (some f) = nI f from rfl, nI_eq (by omega) (by omega)]
        refine ⟨fun q => absurd q hfk, fun _ => ?_⟩
        refine q_u1 (by decide) (c_mfrontOf l S1 hQ.1 hr hj3) ?_
        rw [hhead]
        exact k60
    have kc : AT 3 [some (.inr (.inr (40, 0))), some (.inl (nI k)), none, none, none] [] (q_wI S 40 0 0 0) := by
      refine step 40 [(3, [true, true, true, true, true]), (5, [true, true, true, false, false]), (6, [true, true, true, true, true]), (8, [true, true, true, true, true])] 3 _ _ _ ?_
      simp only [q_vcs, q_vcc, q_vl, q_vu, ↓reduceIte, Nat.reduceEqDiff, Bool.false_eq_true, q_isc, q_mk, q_msk, zbX11_goes, q_pad, q_ent, q_get, q_put, q_nl, q_w, List.cons_append, List.nil_append, q_aks, q_als, Nat.reduceAdd, Nat.reduceLeDiff, Nat.zero_le, true_and, and_true, Option.some.injEq, Sum.inl.injEq, Sum.inr.injEq, true_or, or_true, and_self, q_sw]
      refine q_u1 (by decide) (c_mlaneOf l _ hO.1 hM gv.1 hV.1 (c := k) (by omega)) ?_
      cases hj : lnof (aV a).1 k with
      | none => exact ⟨fun q => absurd rfl q, fun _ => ⟨by unfold gos; rw [hj]; rfl, KK.rf⟩⟩
      | some j =>
        have hj3 := (lnof_lt hj).1
        refine ⟨fun _ => ?_, fun q => absurd q (i_ne1 (n := j) (by omega))⟩
        refine ⟨_, _, (by decide : 0 < 20), c_mcopies l _ (i := 0) (k := 1) (by decide), fun S2 h => ?_⟩
        obtain ⟨t, ht⟩ := ahd_split hj
        exact k5 j hj3 (ahd (aV a).1 k) t (aV a).1 S2 hj gv.1 ht (RW1_cp gv.1.1 hV.1 h.1) (KK.m h.2) (by unfold gos; rw [hj])
    refine step 40 [(3, [true, true, true, true, true])] 0 _ _ _ ?_
    simp only [q_vcs, q_vcc, q_vl, q_vu, ↓reduceIte, Nat.reduceEqDiff, Bool.false_eq_true, q_isc, q_mk, q_msk, zbX11_goes, q_pad, q_ent, q_get, q_put, q_nl, q_w, List.cons_append, List.nil_append, q_aks, q_als, Nat.reduceAdd, Nat.reduceLeDiff, Nat.zero_le, true_and, and_true, Option.some.injEq, Sum.inl.injEq, Sum.inr.injEq, true_or, or_true, and_self, q_sw]
    refine q_u1 (by decide) (c_misCar l _ (hR.th (v := 0)).1 _) ?_
    rw [show decide (0 ≤ (nI k) ∧ (nI k) ≤ nI (aY a 1 0) - 1) = true from decide_eq_true h1]
    first | refine ⟨fun _ => ?_, fun q => absurd q (by decide)⟩ | refine ⟨fun q => absurd q (by decide), fun _ => ?_⟩
    refine q_u1 (by decide) (c_mbN l S (w := 1) (r := 0) (by decide) (by decide)) ?_
    first | refine ⟨fun _ => ?_, fun q => absurd q (by decide)⟩ | refine ⟨fun q => absurd q (by decide), fun _ => ?_⟩
    exact kc
  · rw [spK_1 h1]
    refine RA_n (d := 20) (by decide) hR ?_
    refine q_meth zoX11_goes q_fos (Nat.le_of_ble_eq_true rfl) ?_
    intro AT step
    refine step 40 [(3, [true, true, true, true, true])] 0 _ _ _ ?_
    simp only [q_vcs, q_vcc, q_vl, q_vu, ↓reduceIte, Nat.reduceEqDiff, Bool.false_eq_true, q_isc, q_mk, q_msk, zbX11_goes, q_pad, q_ent, q_get, q_put, q_nl, q_w, List.cons_append, List.nil_append, q_aks, q_als, Nat.reduceAdd, Nat.reduceLeDiff, Nat.zero_le, true_and, and_true, Option.some.injEq, Sum.inl.injEq, Sum.inr.injEq, true_or, or_true, and_self, q_sw]
    refine q_u1 (by decide) (c_misCar l _ (hR.th (v := 0)).1 _) ?_
    rw [show decide (0 ≤ x ∧ x ≤ nI (aY a 1 0) - 1) = false from decide_eq_false h1]
    first | refine ⟨fun _ => ?_, fun q => absurd q (by decide)⟩ | refine ⟨fun q => absurd q (by decide), fun _ => ?_⟩
    refine q_u1 (by decide) (c_mbY l S (w := 1) (r := 0) (by decide) (by decide)) ?_
    first | refine ⟨fun _ => ?_, fun q => absurd q (by decide)⟩ | refine ⟨fun q => absurd q (by decide), fun _ => ?_⟩
    first | rfl | exact ⟨rfl, rfl⟩ | trivial
