/-! The class's questions: evenings, days, what would be; its counts, what is undone, images -/
theorem i_lt1 {x : Int32} {m : Nat} (hm : 1 ≤ m ∧ m < 2 ^ 31) : x < nI m ↔ x ≤ nI m - 1 := by
  obtain ⟨k, rfl⟩ : ∃ k, m = k + 1 := ⟨m - 1, by omega⟩
  rw [i_m1, fa_lt, fa_le, nI_toInt (by omega), nI_toInt (by omega)]
  omega
def arC (a : AS) (x : Int32) : Prop := 0 ≤ x ∧ x ≤ nI (2 ^ aY a 1 0) - 1
theorem c_areCars (l : Launch) {S : qSt} {t : Nat} {a : AS} {B : Nat} (hC : CL S t a) (hO : OKA a B) (x : Int32) : q_Met q_mt l 1 k_X10_areCars 1 [.inr (.inr (0, 0)), .inl x] S (fun r S' => r = some (.inl (bI (@decide (arC a x) (Classical.propDecidable _)))) ∧ S' = S) := by
  have h6 := hO.1.2.1
  have hp : (2 : Nat) ^ aY a 1 0 ≤ 2 ^ 6 := Nat.pow_le_pow_right (by decide) h6
  have hp0 : 1 ≤ 2 ^ aY a 1 0 := Nat.one_le_two_pow
  refine q_meth zoX10_areCars q_fos (Nat.le_of_ble_eq_true rfl) ?_
  intro AT step
  refine step 40 [] 0 _ _ _ ?_
  simp only [q_vcs, q_vcc, q_vl, q_vu, ↓reduceIte, Nat.reduceEqDiff, Bool.false_eq_true, q_isc, q_mk, q_msk, zbX10_areCars, q_pad, q_ent, q_get, q_put, q_nl, q_w, List.cons_append, List.nil_append, q_aks, q_als, Nat.reduceAdd, Nat.reduceLeDiff, Nat.zero_le, true_and, and_true, Option.some.injEq, Sum.inl.injEq, Sum.inr.injEq, true_or, or_true, and_self, q_sw]
  rw [hC.1.2.2.2.1.2.1, i_1sh _ (by omega)]
  by_cases h : arC a x
  · have e : @decide (arC a x) (Classical.propDecidable _) = true := @decide_eq_true _ (Classical.propDecidable _) h
    rw [e]
    refine ⟨fun q => absurd h.1 (Int32.not_le.mpr q), fun _ => ⟨fun q => absurd ((i_lt1 ⟨hp0, by omega⟩).mpr h.2) (Int32.not_lt.mpr q), fun _ => rfl⟩⟩
  · have e : @decide (arC a x) (Classical.propDecidable _) = false := @decide_eq_false _ (Classical.propDecidable _) h
    rw [e]
    refine ⟨fun q => rfl, fun q1 => ⟨fun q => rfl, fun q2 => absurd ⟨Int32.not_lt.mp q1, (i_lt1 ⟨hp0, by omega⟩).mp (Int32.not_le.mp q2)⟩ h⟩⟩
theorem dpT {p : Prop} (h : p) : @decide p (Classical.propDecidable _) = true := @decide_eq_true _ (Classical.propDecidable _) h
theorem dpF {p : Prop} (h : ¬ p) : @decide p (Classical.propDecidable _) = false := @decide_eq_false _ (Classical.propDecidable _) h
def evV (o : Option Nat) (n : Nat) : Int32 := match o with
  | none => -1
  | some v => if n = 0 then nI (v / 4096) else nI (v % 4096)
noncomputable def sp_even (a : AS) (x y : Int32) : SPR := spI a (arC a x ∧ (0 ≤ y ∧ y ≤ 1)) (.inr (evV (evb (aY a) x.toNatClampNeg (aY a 0 0 ^ pcn x.toNatClampNeg)) y.toNatClampNeg), a)
def dyV (Y : YD) (s : DV) : Nat → Int32
  | 0 => nI (bs s.2.1)
  | 1 => nI (prs Y s.2.1)
  | 2 => nI s.2.2.1
  | _ => nI s.2.2.2
noncomputable def sp_days (a : AS) (x m q y : Int32) : SPR := spI a ((1 ≤ m ∧ m ≤ 60) ∧ (0 ≤ q ∧ q ≤ 16) ∧ (0 ≤ y ∧ y ≤ 3)) (.inr (dyV (aY a) (dayn (aY a) q.toNatClampNeg m.toNatClampNeg (x, (aV a).1, 0, 0)) y.toNatClampNeg), a)
def wF (x1 x2 x3 x4 x5 x6 x7 x8 : Int32) (k : Nat) : Int32 := match k with
  | 0 => x1
  | 1 => x2
  | 2 => x3
  | 3 => x4
  | 4 => x5
  | 5 => x6
  | 6 => x7
  | _ => x8
noncomputable def sp_would (a : AS) (x1 x2 x3 x4 x5 x6 x7 x8 : Int32) : SPR := spI a (((1 ≤ x1 ∧ x1 ≤ 2) ∧ (0 ≤ x2 ∧ x2 ≤ 9) ∧ (0 ≤ x3 ∧ x3 ≤ 99)) ∧ ((0 ≤ x4 ∧ x4 ≤ 5) ∧ (0 ≤ x5 ∧ x5 ≤ 2)) ∧ (0 ≤ x6 ∧ x6 ≤ 4) ∧ (0 ≤ x7 ∧ x7 ≤ 999) ∧ (0 ≤ x8 ∧ x8 ≤ 1)) (.inr (nI (secn (lvv (wF x1 x2 x3 x4 x5 x6 x7 x8) (aC a)))), a)
theorem a_evening (l : Launch) (hl : l.stackTraces = false) {S : qSt} {t : Nat} {a : AS} {B : Nat} (hC : CL S t a) (hO : OKA a B) (ht : t + 25 < 65536) (x y : Int32) : CA l k_X10_evening [.inr (.inr (0, 0)), .inl x, .inl y] S t nmI (sp_even a x y) := by
  unfold sp_even
  by_cases h : arC a x ∧ (0 ≤ y ∧ y ≤ 1)
  · rw [spI_2 h]
    have hH := hC.2.2.2.1
    have hV := hH.2.2 (aW a) (Nat.le_refl _)
    have hY := hC.1.2.2.2
    have gv := hO.v
    have h3 := hO.1.1
    have h6 := hO.1.2.1
    have hp : (2 : Nat) ^ aY a 1 0 ≤ 2 ^ 6 := Nat.pow_le_pow_right (by decide) h6
    obtain ⟨u, hu, rfl⟩ := i_rng1 (m := 2 ^ aY a 1 0) (by omega) h.1
    obtain ⟨n, hn, rfl⟩ := i_rng (m := 1) (by decide) h.2.1 h.2.2
    rw [i_cl (by omega), i_cl (by omega)]
    refine CA_s (d := 9) (by decide) hC ?_
    refine q_meth zoX10_evening q_fos (Nat.le_of_ble_eq_true rfl) ?_
    intro AT step
    refine step 40 [] 0 _ _ _ ?_
    simp only [q_vcs, q_vcc, q_vl, q_vu, ↓reduceIte, Nat.reduceEqDiff, Bool.false_eq_true, q_isc, q_mk, q_msk, zbX10_evening, q_pad, q_ent, q_get, q_put, q_nl, q_w, List.cons_append, List.nil_append, q_aks, q_als, Nat.reduceAdd, Nat.reduceLeDiff, Nat.zero_le, true_and, and_true, Option.some.injEq, Sum.inl.injEq, Sum.inr.injEq, true_or, or_true, and_self, q_sw]
    refine q_u1 (by decide) (c_areCars l hC hO (nI u)) ?_
    rw [dpT h.1]
    refine ⟨fun q => absurd q (by decide), fun _ => ?_⟩
    refine q_u1 (by decide) (c_isWithin l S (nI n) 0 1) ?_
    rw [decide_eq_true h.2]
    refine ⟨fun q => absurd q (by decide), fun _ => ?_⟩
    refine q_u0 (by decide) (c_need1 l S) ?_
    refine q_u1 (by decide) (c_bestEvening l S hO.1 hY (told := u) (by omega)) ?_
    have hlt := evb_lt hO.1 u (aY a 0 0 ^ pcn u)
    cases he : evb (aY a) u (aY a 0 0 ^ pcn u) with
    | none => exact ⟨fun q => absurd rfl q, fun _ => ⟨rfl, rfl⟩⟩
    | some v =>
      have hv := hlt v he
      have m12 : nI v &&& 4095 = nI (v % 4096) := by
        have := fa_mask v 12
        simpa [fa_lit] using this
      rw [show oI (some v) = nI v from rfl, show (0 : Int32) = nI 0 from rfl, nI_eq (by omega) (by decide), m12, show (12 : Int32) = nI 12 from rfl, i_sarN (by omega) (by decide)]
      refine ⟨fun _ => ⟨fun q => ?_, fun q => ?_⟩, fun q => absurd q (i_ne1 (n := v) (by omega))⟩
      · unfold evV
        dsimp only
        rw [if_neg q]
        exact ⟨rfl, rfl⟩
      · unfold evV
        dsimp only
        rw [if_pos q]
        exact ⟨rfl, rfl⟩
  · rw [spI_1 h]
    refine CA_x (d := 7) (by decide) ?_
    refine q_methC zoX10_evening (Nat.le_of_ble_eq_true rfl) ?_
    intro AT step hX
    have go := fun ls => hX 2 ls [.inl 0, .inr (.inr (0, 0))] S ⟨_, _, _, _, _, _, _, _, _, _, _, _, _, zbX10_evening.2.2.1, rfl, Nat.le_of_ble_eq_true rfl, Nat.le_of_ble_eq_true rfl, by decide, c_needX l hl hC nmI 1 rfl⟩
    refine step 40 [(2, [true, true, true, true])] 0 _ _ _ ?_
    simp only [q_vcs, q_vcc, q_vl, q_vu, ↓reduceIte, Nat.reduceEqDiff, Bool.false_eq_true, q_isc, q_mk, q_msk, zbX10_evening, q_pad, q_ent, q_get, q_put, q_nl, q_w, List.cons_append, List.nil_append, q_aks, q_als, Nat.reduceAdd, Nat.reduceLeDiff, Nat.zero_le, true_and, and_true, Option.some.injEq, Sum.inl.injEq, Sum.inr.injEq, true_or, or_true, and_self, q_sw]
    refine q_u1 (by decide) (c_areCars l hC hO x) ?_
    by_cases h1 : arC a x
    · rw [dpT h1]
      refine ⟨fun q => absurd q (by decide), fun _ => ?_⟩
      refine q_u1 (by decide) (c_isWithin l S y 0 1) ?_
      rw [decide_eq_false (fun q => h ⟨h1, q⟩)]
      exact ⟨fun _ => go _, fun q => absurd rfl q⟩
    · rw [dpF h1]
      exact ⟨fun _ => go _, fun q => absurd rfl q⟩
theorem a_days (l : Launch) (hl : l.stackTraces = false) {S : qSt} {t : Nat} {a : AS} {B : Nat} (hC : CL S t a) (hO : OKA a B) (ht : t + 25 < 65536) (x m q y : Int32) : CA l k_X10_days [.inr (.inr (0, 0)), .inl x, .inl m, .inl q, .inl y] S t nmI (sp_days a x m q y) := by
  unfold sp_days
  by_cases h : (1 ≤ m ∧ m ≤ 60) ∧ (0 ≤ q ∧ q ≤ 16) ∧ (0 ≤ y ∧ y ≤ 3)
  · rw [spI_2 h]
    have hH := hC.2.2.2.1
    have hV := hH.2.2 (aW a) (Nat.le_refl _)
    have hY := hC.1.2.2.2
    have gv := hO.v
    have h3 := hO.1.1
    have h6 := hO.1.2.1
    obtain ⟨h1, h2, h4⟩ := h
    obtain ⟨u, hu, rfl⟩ := i_rng (m := 60) (x := m) (by decide) (Int32.le_trans (by decide) h1.1) h1.2
    obtain ⟨v, hv, rfl⟩ := i_rng (m := 16) (x := q) (by decide) h2.1 h2.2
    obtain ⟨n, hn, rfl⟩ := i_rng (m := 3) (x := y) (by decide) h4.1 h4.2
    rw [i_cl (by omega), i_cl (by omega), i_cl (by omega)]
    refine CA_r (d := 9) (by decide) ?_
    refine q_meth zoX10_days q_fos (Nat.le_of_ble_eq_true rfl) ?_
    intro AT step
    refine step 40 [] 0 _ _ _ ?_
    simp only [q_vcs, q_vcc, q_vl, q_vu, ↓reduceIte, Nat.reduceEqDiff, Bool.false_eq_true, q_isc, q_mk, q_msk, zbX10_days, q_pad, q_ent, q_get, q_put, q_nl, q_w, List.cons_append, List.nil_append, q_aks, q_als, Nat.reduceAdd, Nat.reduceLeDiff, Nat.zero_le, true_and, and_true, Option.some.injEq, Sum.inl.injEq, Sum.inr.injEq, true_or, or_true, and_self, q_sw]
    refine q_u1 (by decide) (c_isWithin l S (nI u) 1 60) ?_
    rw [decide_eq_true h1]
    refine ⟨fun q => absurd q (by decide), fun _ => ?_⟩
    refine q_u1 (by decide) (c_isWithin l S (nI v) 0 16) ?_
    rw [decide_eq_true h2]
    refine ⟨fun q => absurd q (by decide), fun _ => ?_⟩
    refine q_u1 (by decide) (c_isWithin l S (nI n) 0 3) ?_
    rw [decide_eq_true h4]
    refine ⟨fun q => absurd q (by decide), fun _ => ?_⟩
    refine q_u0 (by decide) (c_need1 l S) ?_
    refine q_u29 (by decide) (c_latest l S hH) ?_
    rw [hV.1]
    refine ⟨_, _, (by decide : 5 < 9), c_daysRun l S (i := 0) hO.1 hY gv.1 x hv (by omega), fun S1 hd => ?_⟩
    obtain ⟨⟨d0, d1, d2, d3⟩, hf⟩ := hd
    have hp := dayn_ok hO.1 v (s := (x, (aV a).1, 0, 0)) gv.1 u
    have hC1 : CL S1 t a := CL_kp hC (hf.mn (fun f i q => by omega)) (hC.2.2.2.2.2.2.2.2.fr hf (by omega) (by omega))
    have fin : (∃ t', t' ≤ t + 25 ∧ CL S1 t' a) ∧ fr Fcl S S1 := ⟨⟨t, by omega, hC1⟩, hf.mn (fun f i q => by show f < 40; omega)⟩
    rw [d1, show (0 : Int32) = nI 0 from rfl, show (1 : Int32) = nI 1 from rfl, show (2 : Int32) = nI 2 from rfl, nI_eq (by omega) (by decide), nI_eq (by omega) (by decide), nI_eq (by omega) (by decide)]
    refine ⟨fun e => ?_, fun e0 => ⟨fun e => ?_, fun e1 => ⟨fun e => ?_, fun e2 => ?_⟩⟩⟩
    · subst e; exact q_u1 (by decide) (c_carsIn l S1 hp.1) ⟨rfl, fin⟩
    · subst e
      exact q_u1 (by decide) (c_pairsOf l S1 hO.1 hC1.1.2.2.2 hp) ⟨rfl, fin⟩
    · subst e; exact ⟨d2, fin⟩
    · have e : n = 3 := by omega
      subst e
      exact ⟨d3, fin⟩
  · rw [spI_1 h]
    refine CA_x (d := 7) (by decide) ?_
    refine q_methC zoX10_days (Nat.le_of_ble_eq_true rfl) ?_
    intro AT step hX
    have go := fun ls => hX 2 ls [.inl 0, .inr (.inr (0, 0))] S ⟨_, _, _, _, _, _, _, _, _, _, _, _, _, zbX10_days.2.2.1, rfl, Nat.le_of_ble_eq_true rfl, Nat.le_of_ble_eq_true rfl, by decide, c_needX l hl hC nmI 1 rfl⟩
    refine step 40 [(2, [true, true, true, true, true])] 0 _ _ _ ?_
    simp only [q_vcs, q_vcc, q_vl, q_vu, ↓reduceIte, Nat.reduceEqDiff, Bool.false_eq_true, q_isc, q_mk, q_msk, zbX10_days, q_pad, q_ent, q_get, q_put, q_nl, q_w, List.cons_append, List.nil_append, q_aks, q_als, Nat.reduceAdd, Nat.reduceLeDiff, Nat.zero_le, true_and, and_true, Option.some.injEq, Sum.inl.injEq, Sum.inr.injEq, true_or, or_true, and_self, q_sw]
    refine q_u1 (by decide) (c_isWithin l S m 1 60) ?_
    by_cases h1 : 1 ≤ m ∧ m ≤ 60
    · rw [decide_eq_true h1]
      refine ⟨fun q => absurd q (by decide), fun _ => ?_⟩
      refine q_u1 (by decide) (c_isWithin l S q 0 16) ?_
      by_cases h2 : 0 ≤ q ∧ q ≤ 16
      · rw [decide_eq_true h2]
        refine ⟨fun q => absurd q (by decide), fun _ => ?_⟩
        refine q_u1 (by decide) (c_isWithin l S y 0 3) ?_
        rw [decide_eq_false (fun q => h ⟨h1, h2, q⟩)]
        exact ⟨fun _ => go _, fun q => absurd rfl q⟩
      · rw [decide_eq_false h2]
        exact ⟨fun _ => go _, fun q => absurd rfl q⟩
    · rw [decide_eq_false h1]
      exact ⟨fun _ => go _, fun q => absurd rfl q⟩
theorem a_would (l : Launch) (hl : l.stackTraces = false) {S : qSt} {t : Nat} {a : AS} {B : Nat} (hC : CL S t a) (hO : OKA a B) (ht : t + 25 < 65536) (x1 x2 x3 x4 x5 x6 x7 x8 : Int32) : CA l k_X10_would [.inr (.inr (0, 0)), .inl x1, .inl x2, .inl x3, .inl x4, .inl x5, .inl x6, .inl x7, .inl x8] S t nmI (sp_would a x1 x2 x3 x4 x5 x6 x7 x8) := by
  unfold sp_would
  by_cases h1 : (1 ≤ x1 ∧ x1 ≤ 2) ∧ (0 ≤ x2 ∧ x2 ≤ 9) ∧ (0 ≤ x3 ∧ x3 ≤ 99)
  · by_cases h2 : (0 ≤ x4 ∧ x4 ≤ 5) ∧ (0 ≤ x5 ∧ x5 ≤ 2)
    · by_cases h3 : (0 ≤ x6 ∧ x6 ≤ 4) ∧ (0 ≤ x7 ∧ x7 ≤ 999) ∧ (0 ≤ x8 ∧ x8 ≤ 1)
      · rw [spI_2 ⟨h1, h2, h3⟩]
        refine CA_r (d := 9) (by decide) ?_
        refine q_meth zoX10_would q_fos (Nat.le_of_ble_eq_true rfl) ?_
        intro AT step
        have k6 : AT 6 [some (.inr (.inr (0, 0))), some (.inl x1), some (.inl x2), some (.inl x3), some (.inl x4), some (.inl x5), some (.inl x6), some (.inl x7), some (.inl x8)] [.inl 1, .inr (.inr (0, 0))] S := by
          refine step 40 [(2, [true, true, true, true, true, true, true, true, true]), (4, [true, true, true, true, true, true, true, true, true]), (6, [true, true, true, true, true, true, true, true, true])] 6 _ _ _ ?_
          simp only [q_vcs, q_vcc, q_vl, q_vu, ↓reduceIte, Nat.reduceEqDiff, Bool.false_eq_true, q_isc, q_mk, q_msk, zbX10_would, q_pad, q_ent, q_get, q_put, q_nl, q_w, List.cons_append, List.nil_append, q_aks, q_als, Nat.reduceAdd, Nat.reduceLeDiff, Nat.zero_le, true_and, and_true, Option.some.injEq, Sum.inl.injEq, Sum.inr.injEq, true_or, or_true, and_self, q_sw]
          refine q_u0 (by decide) (c_need1 l S) ?_
          refine ⟨_, _, (by decide : 0 < 9), c_tellCar l S (i := q_M S 0 0 3) x1 x2 x3 x4, fun S1 f1 => ?_⟩
          have e1 : q_M S1 0 0 3 = q_M S 0 0 3 := by rw [(f1.2 0 0 (by omega)).2.2]
          rw [e1]
          refine ⟨_, _, (by decide : 0 < 9), c_tellMove l S1 (i := q_M S 0 0 3) x5 x6 x7 x8, fun S2 f2 => ?_⟩
          have e2 : q_M S2 0 0 3 = q_M S 0 0 3 := by rw [(f2.2.2 0 0 (by omega)).2.2]; exact e1
          rw [e2]
          have f12 : fr (fun f j => f = 15 ∧ j = q_M S 0 0 3) S S2 := f1.2.tr f2.2.2
          have hL : LC S2 (q_M S 0 0 3) ((aC a).map tkI) := LC.fr hC.2.1.2.2.2 f12 (by omega) (by omega)
          refine ⟨_, _, (by decide : 2 < 9), c_secondsTold l S2 (i := q_M S 0 0 3) (F := wF x1 x2 x3 x4 x5 x6 x7 x8) hO.2.1 hL (fun k hk => ?_), fun v S3 h3 => ?_⟩
          · match k, hk with
            | 0, _ => rw [f2.2.1 0 (by decide)]; exact f1.1.1
            | 1, _ => rw [f2.2.1 1 (by decide)]; exact f1.1.2.1
            | 2, _ => rw [f2.2.1 2 (by decide)]; exact f1.1.2.2.1
            | 3, _ => rw [f2.2.1 3 (by decide)]; exact f1.1.2.2.2
            | 4, _ => exact f2.1.1
            | 5, _ => exact f2.1.2.1
            | 6, _ => exact f2.1.2.2.1
            | 7, _ => exact f2.1.2.2.2
          · obtain ⟨g1, g2⟩ := h3
            cases g1
            have f13 : fr (fun f j => f = 14 ∨ f = 15) S S3 := (f12.mn (fun f i q => Or.inr q.1)).tr (g2.mn (fun f i q => Or.inl q.1))
            exact ⟨rfl, ⟨t, by omega, CL_kp hC (f13.mn (fun f i q => by omega)) (hC.2.2.2.2.2.2.2.2.fr f13 (by omega) (by omega))⟩, f13.mn (fun f i q => by show f < 40; omega)⟩
        have k4 : AT 4 [some (.inr (.inr (0, 0))), some (.inl x1), some (.inl x2), some (.inl x3), some (.inl x4), some (.inl x5), some (.inl x6), some (.inl x7), some (.inl x8)] [.inl 1, .inr (.inr (0, 0))] S := by
          refine step 40 [(2, [true, true, true, true, true, true, true, true, true]), (4, [true, true, true, true, true, true, true, true, true]), (6, [true, true, true, true, true, true, true, true, true])] 4 _ _ _ ?_
          simp only [q_vcs, q_vcc, q_vl, q_vu, ↓reduceIte, Nat.reduceEqDiff, Bool.false_eq_true, q_isc, q_mk, q_msk, zbX10_would, q_pad, q_ent, q_get, q_put, q_nl, q_w, List.cons_append, List.nil_append, q_aks, q_als, Nat.reduceAdd, Nat.reduceLeDiff, Nat.zero_le, true_and, and_true, Option.some.injEq, Sum.inl.injEq, Sum.inr.injEq, true_or, or_true, and_self, q_sw]
          refine q_u0 (by decide) (c_need1 l S) ?_
          refine q_u1 (by decide) (c_isWithin l S x6 0 4) ?_
          rw [decide_eq_true h3.1]
          refine ⟨fun q => absurd q (by decide), fun _ => ?_⟩
          refine q_u1 (by decide) (c_isWithin l S x7 0 999) ?_
          rw [decide_eq_true h3.2.1]
          refine ⟨fun q => absurd q (by decide), fun _ => ?_⟩
          refine q_u1 (by decide) (c_isWithin l S x8 0 1) ?_
          rw [decide_eq_true h3.2.2]
          refine ⟨fun q => absurd q (by decide), fun _ => ?_⟩
          exact k6
        have k2 : AT 2 [some (.inr (.inr (0, 0))), some (.inl x1), some (.inl x2), some (.inl x3), some (.inl x4), some (.inl x5), some (.inl x6), some (.inl x7), some (.inl x8)] [.inl 1, .inr (.inr (0, 0))] S := by
          refine step 40 [(2, [true, true, true, true, true, true, true, true, true]), (4, [true, true, true, true, true, true, true, true, true]), (6, [true, true, true, true, true, true, true, true, true])] 2 _ _ _ ?_
          simp only [q_vcs, q_vcc, q_vl, q_vu, ↓reduceIte, Nat.reduceEqDiff, Bool.false_eq_true, q_isc, q_mk, q_msk, zbX10_would, q_pad, q_ent, q_get, q_put, q_nl, q_w, List.cons_append, List.nil_append, q_aks, q_als, Nat.reduceAdd, Nat.reduceLeDiff, Nat.zero_le, true_and, and_true, Option.some.injEq, Sum.inl.injEq, Sum.inr.injEq, true_or, or_true, and_self, q_sw]
          refine q_u0 (by decide) (c_need1 l S) ?_
          refine q_u1 (by decide) (c_isWithin l S x4 0 5) ?_
          rw [decide_eq_true h2.1]
          refine ⟨fun q => absurd q (by decide), fun _ => ?_⟩
          refine q_u1 (by decide) (c_isWithin l S x5 0 2) ?_
          rw [decide_eq_true h2.2]
          refine ⟨fun q => absurd q (by decide), fun _ => ?_⟩
          exact k4
        refine step 40 [(2, [true, true, true, true, true, true, true, true, true]), (4, [true, true, true, true, true, true, true, true, true]), (6, [true, true, true, true, true, true, true, true, true])] 0 _ _ _ ?_
        simp only [q_vcs, q_vcc, q_vl, q_vu, ↓reduceIte, Nat.reduceEqDiff, Bool.false_eq_true, q_isc, q_mk, q_msk, zbX10_would, q_pad, q_ent, q_get, q_put, q_nl, q_w, List.cons_append, List.nil_append, q_aks, q_als, Nat.reduceAdd, Nat.reduceLeDiff, Nat.zero_le, true_and, and_true, Option.some.injEq, Sum.inl.injEq, Sum.inr.injEq, true_or, or_true, and_self, q_sw]
        refine q_u1 (by decide) (c_isWithin l S x1 1 2) ?_
        rw [decide_eq_true h1.1]
        refine ⟨fun q => absurd q (by decide), fun _ => ?_⟩
        refine q_u1 (by decide) (c_isWithin l S x2 0 9) ?_
        rw [decide_eq_true h1.2.1]
        refine ⟨fun q => absurd q (by decide), fun _ => ?_⟩
        refine q_u1 (by decide) (c_isWithin l S x3 0 99) ?_
        rw [decide_eq_true h1.2.2]
        refine ⟨fun q => absurd q (by decide), fun _ => ?_⟩
        exact k2
      · rw [spI_1 (fun q => h3 q.2.2)]
        refine CA_x (d := 7) (by decide) ?_
        refine q_methC zoX10_would (Nat.le_of_ble_eq_true rfl) ?_
        intro AT step hX
        have hn := h3
        have go := fun ls => hX 6 ls [.inl 0, .inr (.inr (0, 0))] S ⟨_, _, _, _, _, _, _, _, _, _, _, _, _, zbX10_would.2.2.2.2.2.2, rfl, Nat.le_of_ble_eq_true rfl, Nat.le_of_ble_eq_true rfl, by decide, c_needX l hl hC nmI 1 rfl⟩
        have k4 : AT 4 [some (.inr (.inr (0, 0))), some (.inl x1), some (.inl x2), some (.inl x3), some (.inl x4), some (.inl x5), some (.inl x6), some (.inl x7), some (.inl x8)] [.inl 1, .inr (.inr (0, 0))] S := by
          refine step 40 [(2, [true, true, true, true, true, true, true, true, true]), (4, [true, true, true, true, true, true, true, true, true]), (6, [true, true, true, true, true, true, true, true, true])] 4 _ _ _ ?_
          simp only [q_vcs, q_vcc, q_vl, q_vu, ↓reduceIte, Nat.reduceEqDiff, Bool.false_eq_true, q_isc, q_mk, q_msk, zbX10_would, q_pad, q_ent, q_get, q_put, q_nl, q_w, List.cons_append, List.nil_append, q_aks, q_als, Nat.reduceAdd, Nat.reduceLeDiff, Nat.zero_le, true_and, and_true, Option.some.injEq, Sum.inl.injEq, Sum.inr.injEq, true_or, or_true, and_self, q_sw]
          refine q_u0 (by decide) (c_need1 l S) ?_
          refine q_u1 (by decide) (c_isWithin l S x6 0 4) ?_
          by_cases k0 : 0 ≤ x6 ∧ x6 ≤ 4
          · rw [decide_eq_true k0]
            refine ⟨fun q => absurd q (by decide), fun _ => ?_⟩
            refine q_u1 (by decide) (c_isWithin l S x7 0 999) ?_
            by_cases k1 : 0 ≤ x7 ∧ x7 ≤ 999
            · rw [decide_eq_true k1]
              refine ⟨fun q => absurd q (by decide), fun _ => ?_⟩
              refine q_u1 (by decide) (c_isWithin l S x8 0 1) ?_
              rw [decide_eq_false (fun q => hn ⟨k0, k1, q⟩)]
              exact ⟨fun _ => go _, fun q => absurd rfl q⟩
            · rw [decide_eq_false k1]
              exact ⟨fun _ => go _, fun q => absurd rfl q⟩
          · rw [decide_eq_false k0]
            exact ⟨fun _ => go _, fun q => absurd rfl q⟩
        have k2 : AT 2 [some (.inr (.inr (0, 0))), some (.inl x1), some (.inl x2), some (.inl x3), some (.inl x4), some (.inl x5), some (.inl x6), some (.inl x7), some (.inl x8)] [.inl 1, .inr (.inr (0, 0))] S := by
          refine step 40 [(2, [true, true, true, true, true, true, true, true, true]), (4, [true, true, true, true, true, true, true, true, true]), (6, [true, true, true, true, true, true, true, true, true])] 2 _ _ _ ?_
          simp only [q_vcs, q_vcc, q_vl, q_vu, ↓reduceIte, Nat.reduceEqDiff, Bool.false_eq_true, q_isc, q_mk, q_msk, zbX10_would, q_pad, q_ent, q_get, q_put, q_nl, q_w, List.cons_append, List.nil_append, q_aks, q_als, Nat.reduceAdd, Nat.reduceLeDiff, Nat.zero_le, true_and, and_true, Option.some.injEq, Sum.inl.injEq, Sum.inr.injEq, true_or, or_true, and_self, q_sw]
          refine q_u0 (by decide) (c_need1 l S) ?_
          refine q_u1 (by decide) (c_isWithin l S x4 0 5) ?_
          rw [decide_eq_true h2.1]
          refine ⟨fun q => absurd q (by decide), fun _ => ?_⟩
          refine q_u1 (by decide) (c_isWithin l S x5 0 2) ?_
          rw [decide_eq_true h2.2]
          refine ⟨fun q => absurd q (by decide), fun _ => ?_⟩
          exact k4
        refine step 40 [(2, [true, true, true, true, true, true, true, true, true]), (4, [true, true, true, true, true, true, true, true, true]), (6, [true, true, true, true, true, true, true, true, true])] 0 _ _ _ ?_
        simp only [q_vcs, q_vcc, q_vl, q_vu, ↓reduceIte, Nat.reduceEqDiff, Bool.false_eq_true, q_isc, q_mk, q_msk, zbX10_would, q_pad, q_ent, q_get, q_put, q_nl, q_w, List.cons_append, List.nil_append, q_aks, q_als, Nat.reduceAdd, Nat.reduceLeDiff, Nat.zero_le, true_and, and_true, Option.some.injEq, Sum.inl.injEq, Sum.inr.injEq, true_or, or_true, and_self, q_sw]
        refine q_u1 (by decide) (c_isWithin l S x1 1 2) ?_
        rw [decide_eq_true h1.1]
        refine ⟨fun q => absurd q (by decide), fun _ => ?_⟩
        refine q_u1 (by decide) (c_isWithin l S x2 0 9) ?_
        rw [decide_eq_true h1.2.1]
        refine ⟨fun q => absurd q (by decide), fun _ => ?_⟩
        refine q_u1 (by decide) (c_isWithin l S x3 0 99) ?_
        rw [decide_eq_true h1.2.2]
        refine ⟨fun q => absurd q (by decide), fun _ => ?_⟩
        exact k2
    · rw [spI_1 (fun q => h2 q.2.1)]
      refine CA_x (d := 7) (by decide) ?_
      refine q_methC zoX10_would (Nat.le_of_ble_eq_true rfl) ?_
      intro AT step hX
      have hn := h2
      have go := fun ls => hX 4 ls [.inl 0, .inr (.inr (0, 0))] S ⟨_, _, _, _, _, _, _, _, _, _, _, _, _, zbX10_would.2.2.2.2.1, rfl, Nat.le_of_ble_eq_true rfl, Nat.le_of_ble_eq_true rfl, by decide, c_needX l hl hC nmI 1 rfl⟩
      have k2 : AT 2 [some (.inr (.inr (0, 0))), some (.inl x1), some (.inl x2), some (.inl x3), some (.inl x4), some (.inl x5), some (.inl x6), some (.inl x7), some (.inl x8)] [.inl 1, .inr (.inr (0, 0))] S := by
        refine step 40 [(2, [true, true, true, true, true, true, true, true, true]), (4, [true, true, true, true, true, true, true, true, true]), (6, [true, true, true, true, true, true, true, true, true])] 2 _ _ _ ?_
        simp only [q_vcs, q_vcc, q_vl, q_vu, ↓reduceIte, Nat.reduceEqDiff, Bool.false_eq_true, q_isc, q_mk, q_msk, zbX10_would, q_pad, q_ent, q_get, q_put, q_nl, q_w, List.cons_append, List.nil_append, q_aks, q_als, Nat.reduceAdd, Nat.reduceLeDiff, Nat.zero_le, true_and, and_true, Option.some.injEq, Sum.inl.injEq, Sum.inr.injEq, true_or, or_true, and_self, q_sw]
        refine q_u0 (by decide) (c_need1 l S) ?_
        refine q_u1 (by decide) (c_isWithin l S x4 0 5) ?_
        by_cases k0 : 0 ≤ x4 ∧ x4 ≤ 5
        · rw [decide_eq_true k0]
          refine ⟨fun q => absurd q (by decide), fun _ => ?_⟩
          refine q_u1 (by decide) (c_isWithin l S x5 0 2) ?_
          rw [decide_eq_false (fun q => hn ⟨k0, q⟩)]
          exact ⟨fun _ => go _, fun q => absurd rfl q⟩
        · rw [decide_eq_false k0]
          exact ⟨fun _ => go _, fun q => absurd rfl q⟩
      refine step 40 [(2, [true, true, true, true, true, true, true, true, true]), (4, [true, true, true, true, true, true, true, true, true]), (6, [true, true, true, true, true, true, true, true, true])] 0 _ _ _ ?_
      simp only [q_vcs, q_vcc, q_vl, q_vu, ↓reduceIte, Nat.reduceEqDiff, Bool.false_eq_true, q_isc, q_mk, q_msk, zbX10_would, q_pad, q_ent, q_get, q_put, q_nl, q_w, List.cons_append, List.nil_append, q_aks, q_als, Nat.reduceAdd, Nat.reduceLeDiff, Nat.zero_le, true_and, and_true, Option.some.injEq, Sum.inl.injEq, Sum.inr.injEq, true_or, or_true, and_self, q_sw]
      refine q_u1 (by decide) (c_isWithin l S x1 1 2) ?_
      rw [decide_eq_true h1.1]
      refine ⟨fun q => absurd q (by decide), fun _ => ?_⟩
      refine q_u1 (by decide) (c_isWithin l S x2 0 9) ?_
      rw [decide_eq_true h1.2.1]
      refine ⟨fun q => absurd q (by decide), fun _ => ?_⟩
      refine q_u1 (by decide) (c_isWithin l S x3 0 99) ?_
      rw [decide_eq_true h1.2.2]
      refine ⟨fun q => absurd q (by decide), fun _ => ?_⟩
      exact k2
  · rw [spI_1 (fun q => h1 q.1)]
    refine CA_x (d := 7) (by decide) ?_
    refine q_methC zoX10_would (Nat.le_of_ble_eq_true rfl) ?_
    intro AT step hX
    have hn := h1
    have go := fun ls => hX 2 ls [.inl 0, .inr (.inr (0, 0))] S ⟨_, _, _, _, _, _, _, _, _, _, _, _, _, zbX10_would.2.2.1, rfl, Nat.le_of_ble_eq_true rfl, Nat.le_of_ble_eq_true rfl, by decide, c_needX l hl hC nmI 1 rfl⟩
    refine step 40 [(2, [true, true, true, true, true, true, true, true, true]), (4, [true, true, true, true, true, true, true, true, true]), (6, [true, true, true, true, true, true, true, true, true])] 0 _ _ _ ?_
    simp only [q_vcs, q_vcc, q_vl, q_vu, ↓reduceIte, Nat.reduceEqDiff, Bool.false_eq_true, q_isc, q_mk, q_msk, zbX10_would, q_pad, q_ent, q_get, q_put, q_nl, q_w, List.cons_append, List.nil_append, q_aks, q_als, Nat.reduceAdd, Nat.reduceLeDiff, Nat.zero_le, true_and, and_true, Option.some.injEq, Sum.inl.injEq, Sum.inr.injEq, true_or, or_true, and_self, q_sw]
    refine q_u1 (by decide) (c_isWithin l S x1 1 2) ?_
    by_cases k0 : 1 ≤ x1 ∧ x1 ≤ 2
    · rw [decide_eq_true k0]
      refine ⟨fun q => absurd q (by decide), fun _ => ?_⟩
      refine q_u1 (by decide) (c_isWithin l S x2 0 9) ?_
      by_cases k1 : 0 ≤ x2 ∧ x2 ≤ 9
      · rw [decide_eq_true k1]
        refine ⟨fun q => absurd q (by decide), fun _ => ?_⟩
        refine q_u1 (by decide) (c_isWithin l S x3 0 99) ?_
        rw [decide_eq_false (fun q => hn ⟨k0, k1, q⟩)]
        exact ⟨fun _ => go _, fun q => absurd rfl q⟩
      · rw [decide_eq_false k1]
        exact ⟨fun _ => go _, fun q => absurd rfl q⟩
    · rw [decide_eq_false k0]
      exact ⟨fun _ => go _, fun q => absurd rfl q⟩
