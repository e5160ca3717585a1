/-! The reference's questions: lane, sure, leaks -/
theorem pcn6 {u : Nat} (h : u < 64) : pcn u = fa_cnt (fun i => u.testBit i) 6 := by
  unfold pcn
  exact cnt_more (fun i => u.testBit i) 6 6 (fun k h1 _ => Nat.testBit_lt_two_pow (Nat.lt_of_lt_of_le h (Nat.pow_le_pow_right (n := 2) (by decide) h1)))
theorem fst0_succ (p : Nat → Bool) (n : Nat) : fst0 p (n + 1) = (match fst0 p n with | none => if p n then some n else none | some b => some b) := by
  unfold fst0
  rw [List.range_succ, List.find?_append]
  cases h : (List.range n).find? p with
  | none => simp [List.find?_cons]; cases p n <;> rfl
  | some b => rfl
theorem fst0_0 {p : Nat → Bool} {n : Nat} : fst0 p n = none ↔ fa_cnt p n = 0 := by
  induction n with
  | zero => exact ⟨fun _ => rfl, fun _ => rfl⟩
  | succ n ih =>
    rw [fst0_succ, fa_cnt]
    cases h : fst0 p n with
    | none =>
      have := ih.mp h
      cases hp : p n <;> simp [this]
    | some b =>
      have : fa_cnt p n ≠ 0 := fun q => by rw [ih.mpr q] at h; cases h
      simp; omega
theorem r_lane (l : Launch) {S : qSt} {a : AS} {B : Nat} (hR : RF S a) (hO : OKA a B) (x y : Int32) : RA l k_X11_lane [.inr (.inr (40, 0)), .inl x, .inl y] S (sp_lane a x y) := by
  unfold sp_lane
  by_cases h1 : isLn a x
  · by_cases h2 : 0 ≤ y ∧ y ≤ 4
    · rw [spL_3 h1 h2]
      obtain ⟨k, hk, rfl⟩ := isLn_ex hO h1
      obtain ⟨n, hn, rfl⟩ := i_rng (m := 4) (by decide) h2.1 h2.2
      rw [i_cl (by have := hO.1.1; omega), i_cl (by omega)]
      have hR0 := hR.th (v := 0)
      have gv := hO.v
      have hM := hR0.1
      have hV := hR0.2.2.2.1.2.1
      have h3 := hO.1.1
      have h6 := hO.1.2.1
      refine RA_s (d := 20) (by decide) hR ?_
      refine q_meth zoX11_lane q_fos (Nat.le_of_ble_eq_true rfl) ?_
      intro AT step
      have hk3 : k < 3 := by omega
      have hl6 := (st_row gv.1.1 hk3)
      have k7 : ∀ r i m, i + r = ((aV a).1 k).length → (∀ x, m.testBit x = true ↔ x ∈ ((aV a).1 k).reverse.take i) → AT 7 [some (.inr (.inr (40, 0))), some (.inl (nI k)), some (.inl (nI n)), some (.inl (nI m)), some (.inl (nI i))] [] (q_wI S 40 0 0 0) := by
        intro r
        induction r with
        | zero =>
          intro i m hi hm
          have e : m = bo ((aV a).1 k) := by
            apply Nat.eq_of_testBit_eq
            intro x
            rw [Bool.eq_iff_iff, hm x, bo_bit, List.take_of_length_le (by simp; omega), List.mem_reverse, decide_eq_true_eq]
          refine step 40 [(7, [true, true, true, true, true])] 7 _ _ _ ?_
          simp only [q_vcs, q_vcc, q_vl, q_vu, ↓reduceIte, Nat.reduceEqDiff, Bool.false_eq_true, q_isc, q_mk, q_msk, zbX11_lane, q_pad, q_ent, q_get, q_put, q_nl, q_w, List.cons_append, List.nil_append, q_aks, q_als, Nat.reduceAdd, Nat.reduceLeDiff, Nat.zero_le, true_and, and_true, Option.some.injEq, Sum.inl.injEq, Sum.inr.injEq, true_or, or_true, and_self, q_sw]
          rw [Int32.zero_add, i_cl (by omega), (hV.1 k hk3).1, nI_leI (by have := hl6.1; have e : ((aV a).1 k).length = ((aH a (aW a)).1 k).length := rfl; omega) (by have := hl6.1; omega)]
          refine ⟨i_in (by omega) (by decide), fun _ => ?_, fun q => absurd (by have e : ((aV a).1 k).length = ((aH a (aW a)).1 k).length := rfl; omega) q⟩
          have : n = 0 ∨ n = 1 ∨ n = 2 ∨ n = 3 ∨ n = 4 := by omega
          rcases this with e | e | e | e | e <;> subst e
          · refine ⟨fun _ => ⟨i_in (by omega) (by decide), ?_⟩, fun q => absurd rfl q⟩
            rw [hM.2.2.2.1 k hk]
            show nI (aY a 3 k) = nI (plc (aY a) k)
            unfold plc
            rw [if_pos hk]
          · refine ⟨fun q => absurd q (by decide), fun _ => ⟨fun _ => ?_, fun q => absurd rfl q⟩⟩
            exact q_u1 (by decide) (c_mroomOf l _ hO.1 hM gv.1 hV.1 hk) (by first | rfl | exact ⟨rfl, rfl⟩)
          · refine ⟨fun q => absurd q (by decide), fun _ => ⟨fun q => absurd q (by decide), fun _ => ⟨fun _ => ?_, fun q => absurd rfl q⟩⟩⟩
            exact q_u1 (by decide) (c_mfrontOf l _ gv.1.1 hV.1 hk3) (by first | rfl | exact ⟨rfl, rfl⟩)
          · refine ⟨fun q => absurd q (by decide), fun _ => ⟨fun q => absurd q (by decide), fun _ => ⟨fun q => absurd q (by decide), fun _ => ⟨fun _ => ?_, fun q => absurd rfl q⟩⟩⟩⟩
            subst m
            first | rfl | exact ⟨rfl, rfl⟩
          · refine ⟨fun q => absurd q (by decide), fun _ => ⟨fun q => absurd q (by decide), fun _ => ⟨fun q => absurd q (by decide), fun _ => ⟨fun q => absurd q (by decide), fun _ => ⟨i_in (by omega) (by decide), ?_⟩⟩⟩⟩⟩
            rw [nI_z (by have := hl6.1; have e : ((aV a).1 k).length = ((aH a (aW a)).1 k).length := rfl; omega)]
            have hlast : ∀ L : List Nat, L ≠ [] → L.getLast? = some (L.reverse.getD 0 0) := fun L hL => by
              rw [List.getLast?_eq_head?_reverse]
              cases h : L.reverse with
              | nil => exact absurd (List.reverse_eq_nil_iff.mp h) hL
              | cons x t => rfl
            refine ⟨fun q => ?_, fun q => ?_⟩
            · refine q_u1 (by decide) (c_mstanding l _ gv.1.1 hV.1 (k := 0) hk3 (by have e : ((aV a).1 k).length = ((aH a (aW a)).1 k).length := rfl; omega)) ?_
              have : lnV a k 4 = nI (wl (aV a).1 k 0) := by
                show oI ((aV a).1 k).getLast? = _
                rw [hlast _ (fun z => q (by have : ((aH a (aW a)).1 k).length = ((aV a).1 k).length := rfl; rw [this, z]; rfl))]
                rfl
              rw [this]
              exact ⟨rfl, rfl⟩
            · have : lnV a k 4 = -1 := by
                show oI ((aV a).1 k).getLast? = _
                rw [List.length_eq_zero_iff.mp (show ((aV a).1 k).length = 0 from q)]
                rfl
              rw [this]
        | succ r ih =>
          intro i m hi hm
          have hkl : i < ((aV a).1 k).length := by omega
          have hc6 := hl6.2 _ (wl_mem hkl)
          have hl7 := hl6.1
          refine step 40 [(7, [true, true, true, true, true])] 7 _ _ _ ?_
          simp only [q_vcs, q_vcc, q_vl, q_vu, ↓reduceIte, Nat.reduceEqDiff, Bool.false_eq_true, q_isc, q_mk, q_msk, zbX11_lane, q_pad, q_ent, q_get, q_put, q_nl, q_w, List.cons_append, List.nil_append, q_aks, q_als, Nat.reduceAdd, Nat.reduceLeDiff, Nat.zero_le, true_and, and_true, Option.some.injEq, Sum.inl.injEq, Sum.inr.injEq, true_or, or_true, and_self, q_sw]
          rw [Int32.zero_add, i_cl (by omega), (hV.1 k hk3).1, nI_leI (by have e : ((aV a).1 k).length = ((aH a (aW a)).1 k).length := rfl; omega) (by omega)]
          refine ⟨i_in (by omega) (by decide), fun q => absurd q (by have e : ((aV a).1 k).length = ((aH a (aW a)).1 k).length := rfl; omega), fun _ => ?_⟩
          refine q_u1 (by decide) (c_mstanding l _ gv.1.1 hV.1 hk3 hkl) ?_
          rw [i_1sh _ (by omega), fa_or, nI_1]
          refine ih (i + 1) _ (by omega) (fun x => ?_)
          rw [fb_bit_set, Bool.or_eq_true, hm x, mem_take_wl hkl, decide_eq_true_eq]
      have kc : AT 6 [some (.inr (.inr (40, 0))), some (.inl (nI k)), some (.inl (nI n)), none, none] [] (q_wI S 40 0 0 0) := by
        refine step 40 [(6, [true, true, true, true, true]), (7, [true, true, true, true, true])] 6 _ _ _ ?_
        simp only [q_vcs, q_vcc, q_vl, q_vu, ↓reduceIte, Nat.reduceEqDiff, Bool.false_eq_true, q_isc, q_mk, q_msk, zbX11_lane, q_pad, q_ent, q_get, q_put, q_nl, q_w, List.cons_append, List.nil_append, q_aks, q_als, Nat.reduceAdd, Nat.reduceLeDiff, Nat.zero_le, true_and, and_true, Option.some.injEq, Sum.inl.injEq, Sum.inr.injEq, true_or, or_true, and_self, q_sw]
        exact k7 _ 0 0 (Nat.zero_add _) (fun x => by simp)
      refine step 40 [(6, [true, true, true, true, true])] 0 _ _ _ ?_
      simp only [q_vcs, q_vcc, q_vl, q_vu, ↓reduceIte, Nat.reduceEqDiff, Bool.false_eq_true, q_isc, q_mk, q_msk, zbX11_lane, q_pad, q_ent, q_get, q_put, q_nl, q_w, List.cons_append, List.nil_append, q_aks, q_als, Nat.reduceAdd, Nat.reduceLeDiff, Nat.zero_le, true_and, and_true, Option.some.injEq, Sum.inl.injEq, Sum.inr.injEq, true_or, or_true, and_self, q_sw]
      refine q_u1 (by decide) (c_misLane l _ (hR.th (v := 0)).1 _) ?_
      rw [show decide (0 ≤ (nI k) ∧ (nI k) ≤ nI (aY a 0 0) - 1) = true from decide_eq_true h1]
      first | refine ⟨fun _ => ?_, fun q => absurd q (by decide)⟩ | refine ⟨fun q => absurd q (by decide), fun _ => ?_⟩
      refine q_u1 (by decide) (c_mbN l S (w := 1) (r := 0) (by decide) (by decide)) ?_
      first | refine ⟨fun _ => ?_, fun q => absurd q (by decide)⟩ | refine ⟨fun q => absurd q (by decide), fun _ => ?_⟩
      refine q_u1 (by decide) (c_min l _ (nI n) 0 4) ?_
      rw [decide_eq_true h2]
      first | refine ⟨fun _ => ?_, fun q => absurd q (by decide)⟩ | refine ⟨fun q => absurd q (by decide), fun _ => ?_⟩
      refine q_u1 (by decide) (c_mbN l S (w := 2) (r := 1) (by decide) (by decide)) ?_
      first | refine ⟨fun _ => ?_, fun q => absurd q (by decide)⟩ | refine ⟨fun q => absurd q (by decide), fun _ => ?_⟩
      exact kc
    · rw [spL_2 h1 h2]
      refine RA_i (d := 20) (by decide) hR ?_
      refine q_meth zoX11_lane q_fos (Nat.le_of_ble_eq_true rfl) ?_
      intro AT step
      refine step 40 [(6, [true, true, true, true, true])] 0 _ _ _ ?_
      simp only [q_vcs, q_vcc, q_vl, q_vu, ↓reduceIte, Nat.reduceEqDiff, Bool.false_eq_true, q_isc, q_mk, q_msk, zbX11_lane, q_pad, q_ent, q_get, q_put, q_nl, q_w, List.cons_append, List.nil_append, q_aks, q_als, Nat.reduceAdd, Nat.reduceLeDiff, Nat.zero_le, true_and, and_true, Option.some.injEq, Sum.inl.injEq, Sum.inr.injEq, true_or, or_true, and_self, q_sw]
      refine q_u1 (by decide) (c_misLane l _ (hR.th (v := 0)).1 _) ?_
      rw [show decide (0 ≤ x ∧ x ≤ nI (aY a 0 0) - 1) = true from decide_eq_true h1]
      first | refine ⟨fun _ => ?_, fun q => absurd q (by decide)⟩ | refine ⟨fun q => absurd q (by decide), fun _ => ?_⟩
      refine q_u1 (by decide) (c_mbN l S (w := 1) (r := 0) (by decide) (by decide)) ?_
      first | refine ⟨fun _ => ?_, fun q => absurd q (by decide)⟩ | refine ⟨fun q => absurd q (by decide), fun _ => ?_⟩
      refine q_u1 (by decide) (c_min l _ y 0 4) ?_
      rw [decide_eq_false (fun z => h2 z)]
      first | refine ⟨fun _ => ?_, fun q => absurd q (by decide)⟩ | refine ⟨fun q => absurd q (by decide), fun _ => ?_⟩
      refine q_u1 (by decide) (c_mbY l S (w := 2) (r := 1) (by decide) (by decide)) ?_
      first | refine ⟨fun _ => ?_, fun q => absurd q (by decide)⟩ | refine ⟨fun q => absurd q (by decide), fun _ => ?_⟩
      first | rfl | exact ⟨rfl, rfl⟩ | trivial
  · rw [spL_1 h1]
    refine RA_n (d := 20) (by decide) hR ?_
    refine q_meth zoX11_lane q_fos (Nat.le_of_ble_eq_true rfl) ?_
    intro AT step
    refine step 40 [(6, [true, true, true, true, true])] 0 _ _ _ ?_
    simp only [q_vcs, q_vcc, q_vl, q_vu, ↓reduceIte, Nat.reduceEqDiff, Bool.false_eq_true, q_isc, q_mk, q_msk, zbX11_lane, q_pad, q_ent, q_get, q_put, q_nl, q_w, List.cons_append, List.nil_append, q_aks, q_als, Nat.reduceAdd, Nat.reduceLeDiff, Nat.zero_le, true_and, and_true, Option.some.injEq, Sum.inl.injEq, Sum.inr.injEq, true_or, or_true, and_self, q_sw]
    refine q_u1 (by decide) (c_misLane l _ (hR.th (v := 0)).1 _) ?_
    rw [show decide (0 ≤ x ∧ x ≤ nI (aY a 0 0) - 1) = false from decide_eq_false h1]
    first | refine ⟨fun _ => ?_, fun q => absurd q (by decide)⟩ | refine ⟨fun q => absurd q (by decide), fun _ => ?_⟩
    refine q_u1 (by decide) (c_mbY l S (w := 1) (r := 0) (by decide) (by decide)) ?_
    first | refine ⟨fun _ => ?_, fun q => absurd q (by decide)⟩ | refine ⟨fun q => absurd q (by decide), fun _ => ?_⟩
    first | rfl | exact ⟨rfl, rfl⟩ | trivial
theorem r_leaks (l : Launch) {S : qSt} {a : AS} {B : Nat} (hR : RF S a) (hO : OKA a B) (y : Int32) : RA l k_X11_leaks [.inr (.inr (40, 0)), .inl y] S (sp_leaks a y) := by
  unfold sp_leaks
  by_cases h2 : 0 ≤ y ∧ y ≤ 2
  · rw [spI_2 h2]
    obtain ⟨n, hn, rfl⟩ := i_rng (m := 2) (by decide) h2.1 h2.2
    rw [i_cl (by omega)]
    have hR0 := hR.th (v := 0)
    have gv := hO.v
    have hM := hR0.1
    have hV := hR0.2.2.2.1.2.1
    have h3 := hO.1.1
    have h6 := hO.1.2.1
    refine RA_s (d := 20) (by decide) hR ?_
    refine q_meth zoX11_leaks q_fos (Nat.le_of_ble_eq_true rfl) ?_
    intro AT step
    obtain ⟨ms, ws, os, q1, q2, q3⟩ := hR0.2.2.1
    have hp : (2 : Nat) ^ aY a 1 0 ≤ 2 ^ 6 := Nat.pow_le_pow_right (by decide) h6
    have ht1 : q_I (q_wI S 40 0 0 0) 44 0 (Int32.toNatClampNeg 1) = nI (aY a 1 0) := hM.2.1
    have hsh := i_1sh (aY a 1 0) (by omega)
    have hcn : ∀ i, fa_cnt (isR (aY a) (aV a).1 (aLn a) (aOi a)) i ≤ i := by
      intro i
      induction i with
      | zero => exact Nat.le_refl _
      | succ i ih => rw [fa_cnt]; split <;> omega
    have hcl : ∀ i, i ≤ 64 → ∀ v, cmn (isR (aY a) (aV a).1 (aLn a) (aOi a)) i = some v → v < 64 := by
      intro i
      induction i with
      | zero => intro _ v e; cases e
      | succ i ih =>
        intro hi v e
        unfold cmn at e
        split at e
        · cases hc : cmn (isR (aY a) (aV a).1 (aLn a) (aOi a)) i with
          | none => rw [hc] at e; cases e; omega
          | some w =>
            rw [hc] at e
            cases e
            exact Nat.lt_of_le_of_lt (Nat.and_le_left) (ih (by omega) w hc)
        · exact ih (by omega) v e
    have hcc : ∀ i, cmn (isR (aY a) (aV a).1 (aLn a) (aOi a)) i = none ↔ fa_cnt (isR (aY a) (aV a).1 (aLn a) (aOi a)) i = 0 := by
      intro i
      induction i with
      | zero => exact ⟨fun _ => rfl, fun _ => rfl⟩
      | succ i ih =>
        unfold cmn
        rw [fa_cnt]
        cases hp : isR (aY a) (aV a).1 (aLn a) (aOi a) i with
        | false => simpa using ih
        | true =>
          cases hc : cmn (isR (aY a) (aV a).1 (aLn a) (aOi a)) i <;> simp
    have k4 : ∀ r i v, i + r = 2 ^ aY a 1 0 → v = (match cmn (isR (aY a) (aV a).1 (aLn a) (aOi a)) i with | none => 2 ^ aY a 1 0 - 1 | some w => w) → AT 4 [some (.inr (.inr (40, 0))), some (.inl (nI n)), some (.inl (nI (fa_cnt (isR (aY a) (aV a).1 (aLn a) (aOi a)) i))), some (.inl (oI (fst0 (isR (aY a) (aV a).1 (aLn a) (aOi a)) i))), some (.inl (nI v)), some (.inl (nI i))] [] (q_wI S 40 0 0 0) := by
      intro r
      induction r with
      | zero =>
        intro i v hi hv
        have hi : i = 2 ^ aY a 1 0 := by omega
        subst hi
        have hc := hcn (2 ^ aY a 1 0)
        have hcc := hcc (2 ^ aY a 1 0)
        refine step 40 [(4, [true, true, true, true, true, true])] 4 _ _ _ ?_
        simp only [q_vcs, q_vcc, q_vl, q_vu, ↓reduceIte, Nat.reduceEqDiff, Bool.false_eq_true, q_isc, q_mk, q_msk, zbX11_leaks, q_pad, q_ent, q_get, q_put, q_nl, q_w, List.cons_append, List.nil_append, q_aks, q_als, Nat.reduceAdd, Nat.reduceLeDiff, Nat.zero_le, true_and, and_true, Option.some.injEq, Sum.inl.injEq, Sum.inr.injEq, true_or, or_true, and_self, q_sw]
        rw [ht1, hsh, nI_leI (by omega) (by omega), nI_z (n := n) (by omega), nI_z (n := fa_cnt _ _) (by omega), show (1 : Int32) = nI 1 from rfl, nI_eq (a := n) (b := 1) (by omega) (by decide)]
        refine ⟨i_in (k := 1) (by decide) (by decide), fun _ => ?_, fun q => absurd (Nat.le_refl _) q⟩
        have : n = 0 ∨ n = 1 ∨ n = 2 := by omega
        rcases this with e | e | e <;> subst e
        · refine ⟨fun q => absurd rfl q, fun _ => ?_⟩; first | rfl | exact ⟨rfl, rfl⟩
        · refine ⟨fun _ => ⟨fun q => absurd rfl q, fun _ => ?_⟩, fun q => absurd q (by decide)⟩; first | rfl | exact ⟨rfl, rfl⟩
        · refine ⟨fun _ => ⟨fun _ => ⟨fun q => ?_, fun q => ?_⟩, fun q => absurd q (by decide)⟩, fun q => absurd q (by decide)⟩
          · cases hx : cmn (isR (aY a) (aV a).1 (aLn a) (aOi a)) (2 ^ aY a 1 0) with
            | none => exact absurd (hcc.mp hx) q
            | some w =>
              rw [hx] at hv
              have : lkV a 2 = nI w := by show nI ((cmn _ _).getD 0) = _; rw [hx]; rfl
              rw [this, hv]
          · have : lkV a 2 = 0 := by show nI ((cmn _ _).getD 0) = _; rw [hcc.mpr q]; rfl
            rw [this]
      | succ r ih =>
        intro i v hi hv
        have hc := hcn i
        have ih := ih (i + 1)
        refine step 40 [(4, [true, true, true, true, true, true])] 4 _ _ _ ?_
        simp only [q_vcs, q_vcc, q_vl, q_vu, ↓reduceIte, Nat.reduceEqDiff, Bool.false_eq_true, q_isc, q_mk, q_msk, zbX11_leaks, q_pad, q_ent, q_get, q_put, q_nl, q_w, List.cons_append, List.nil_append, q_aks, q_als, Nat.reduceAdd, Nat.reduceLeDiff, Nat.zero_le, true_and, and_true, Option.some.injEq, Sum.inl.injEq, Sum.inr.injEq, true_or, or_true, and_self, q_sw]
        rw [ht1, hsh, nI_leI (by omega) (by omega), nI_1, nI_1, nI_z (n := fa_cnt _ _) (by omega)]
        refine ⟨i_in (k := 1) (by decide) (by decide), fun q => absurd q (by omega), fun _ => ?_⟩
        refine q_u1 (by decide) (c_misLeak l _ (set := i) hO.1 hM gv.1 hV.1 q1 (by omega)) ?_
        rw [ilk_isR q2]
        unfold cmn at ih
        rw [fst0_succ, fa_cnt] at ih
        cases hb : isR (aY a) (aV a).1 (aLn a) (aOi a) i with
        | false =>
          rw [hb] at ih
          refine ⟨fun q => absurd rfl q, fun _ => ?_⟩
          have ih := ih v (by omega) hv
          cases hx : fst0 (isR (aY a) (aV a).1 (aLn a) (aOi a)) i with
          | none => rw [hx] at ih; exact ih
          | some b => rw [hx] at ih; exact ih
        | true =>
          rw [hb] at ih
          rw [fa_and]
          have hv64 : v &&& i = (match (match cmn (isR (aY a) (aV a).1 (aLn a) (aOi a)) i with | none => some i | some a => some (a &&& i)) with | none => 2 ^ aY a 1 0 - 1 | some w => w) := by
            cases hx : cmn (isR (aY a) (aV a).1 (aLn a) (aOi a)) i with
            | none =>
              rw [hx] at hv
              dsimp only at hv ⊢
              rw [hv, Nat.and_comm, Nat.and_two_pow_sub_one_eq_mod, Nat.mod_eq_of_lt (by omega)]
            | some w => rw [hx] at hv; dsimp only at hv ⊢; rw [hv]
          have ih := ih (v &&& i) (by omega) hv64
          refine ⟨fun _ => ⟨fun q => ?_, fun q => ?_⟩, fun q => absurd q (by decide)⟩
          · cases hx : fst0 (isR (aY a) (aV a).1 (aLn a) (aOi a)) i with
            | none => exact absurd (fst0_0.mp hx) q
            | some b => rw [hx] at ih; exact ih
          · rw [fst0_0.mpr q] at ih; exact ih
    have kc : AT 3 [some (.inr (.inr (40, 0))), some (.inl (nI n)), none, none, none, none] [] (q_wI S 40 0 0 0) := by
      refine step 40 [(3, [true, true, true, true, true, true]), (4, [true, true, true, true, true, true])] 3 _ _ _ ?_
      simp only [q_vcs, q_vcc, q_vl, q_vu, ↓reduceIte, Nat.reduceEqDiff, Bool.false_eq_true, q_isc, q_mk, q_msk, zbX11_leaks, q_pad, q_ent, q_get, q_put, q_nl, q_w, List.cons_append, List.nil_append, q_aks, q_als, Nat.reduceAdd, Nat.reduceLeDiff, Nat.zero_le, true_and, and_true, Option.some.injEq, Sum.inl.injEq, Sum.inr.injEq, true_or, or_true, and_self, q_sw]
      rw [ht1, i_sh _ (by omega)]
      exact ⟨i_in (k := 1) (by decide) (by decide), k4 _ 0 _ (Nat.zero_add _) rfl⟩
    refine step 40 [(3, [true, true, true, true, true, true])] 0 _ _ _ ?_
    simp only [q_vcs, q_vcc, q_vl, q_vu, ↓reduceIte, Nat.reduceEqDiff, Bool.false_eq_true, q_isc, q_mk, q_msk, zbX11_leaks, q_pad, q_ent, q_get, q_put, q_nl, q_w, List.cons_append, List.nil_append, q_aks, q_als, Nat.reduceAdd, Nat.reduceLeDiff, Nat.zero_le, true_and, and_true, Option.some.injEq, Sum.inl.injEq, Sum.inr.injEq, true_or, or_true, and_self, q_sw]
    refine q_u1 (by decide) (c_min l _ (nI n) 0 2) ?_
    rw [decide_eq_true h2]
    first | refine ⟨fun _ => ?_, fun q => absurd q (by decide)⟩ | refine ⟨fun q => absurd q (by decide), fun _ => ?_⟩
    refine q_u1 (by decide) (c_mbN l S (w := 1) (r := 1) (by decide) (by decide)) ?_
    first | refine ⟨fun _ => ?_, fun q => absurd q (by decide)⟩ | refine ⟨fun q => absurd q (by decide), fun _ => ?_⟩
    exact kc
  · rw [spI_1 h2]
    refine RA_i (d := 20) (by decide) hR ?_
    refine q_meth zoX11_leaks q_fos (Nat.le_of_ble_eq_true rfl) ?_
    intro AT step
    refine step 40 [(3, [true, true, true, true, true, true])] 0 _ _ _ ?_
    simp only [q_vcs, q_vcc, q_vl, q_vu, ↓reduceIte, Nat.reduceEqDiff, Bool.false_eq_true, q_isc, q_mk, q_msk, zbX11_leaks, q_pad, q_ent, q_get, q_put, q_nl, q_w, List.cons_append, List.nil_append, q_aks, q_als, Nat.reduceAdd, Nat.reduceLeDiff, Nat.zero_le, true_and, and_true, Option.some.injEq, Sum.inl.injEq, Sum.inr.injEq, true_or, or_true, and_self, q_sw]
    refine q_u1 (by decide) (c_min l _ y 0 2) ?_
    rw [decide_eq_false (fun z => h2 z)]
    first | refine ⟨fun _ => ?_, fun q => absurd q (by decide)⟩ | refine ⟨fun q => absurd q (by decide), fun _ => ?_⟩
    refine q_u1 (by decide) (c_mbY l S (w := 1) (r := 1) (by decide) (by decide)) ?_
    first | refine ⟨fun _ => ?_, fun q => absurd q (by decide)⟩ | refine ⟨fun q => absurd q (by decide), fun _ => ?_⟩
    first | rfl | exact ⟨rfl, rfl⟩ | trivial
