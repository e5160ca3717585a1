/-! The class's questions: lanes, cars, moves -/
theorem CL_kp {S S' : qSt} {t t' : Nat} {a : AS} (h : CL S t a) (hf : fr (fun f _ => f = 14 ∨ f = 15 ∨ f = 17 ∨ (18 ≤ f ∧ f ≤ 23) ∨ (29 ≤ f ∧ f ≤ 33)) S S') (ht : TS S' t') : CL S' t' a := by
  obtain ⟨h1, h2, h3, h4, h5, h6, h7, h8, h9⟩ := h
  have e0 := hf 0 0 (by omega)
  refine ⟨?_, ?_, ?_, h4.fr hf (by omega) (fun i _ => ⟨by omega, by omega⟩), ⟨?_, fun i hi => (h5.2 i hi).fr hf (by omega) (fun i _ => ⟨by omega, by omega⟩)⟩, h6.fr hf (by omega) (by omega), ?_, ?_, ht⟩
  · unfold CL1
    rw [e0.2.2]
    exact ⟨h1.1, h1.2.1, h1.2.2.1, h1.2.2.2.fr hf (fun f _ _ q => by omega)⟩
  · unfold CL2
    rw [e0.2.2]
    exact ⟨h2.1, h2.2.1, h2.2.2.1, LC.fr h2.2.2.2 hf (by omega) (by omega)⟩
  · unfold CL3
    rw [e0.2.2]
    exact ⟨h3.1, h3.2.1, h3.2.2.1, h3.2.2.2.fr9 hf (by omega)⟩
  · rw [e0.1]; exact h5.1
  · rw [(hf 1 0 (by omega)).1]; exact h7
  · unfold CL8
    rw [e0.1]
    exact h8
theorem c_needCarO (l : Launch) {S : qSt} {t : Nat} {a : AS} (hC : CL S t a) {x : Int32} (h : 0 ≤ x ∧ x ≤ nI (aY a 1 0) - 1) : q_Met q_mt l 1 k_X10_needCar 0 [.inr (.inr (0, 0)), .inl x] S (fun _ S' => S' = S) := c_needCar l S (by rw [hC.1.2.2.2.1.2.1]; exact h)
theorem c_needLaneO (l : Launch) {S : qSt} {t : Nat} {a : AS} (hC : CL S t a) {x : Int32} (h : 0 ≤ x ∧ x ≤ nI (aY a 0 0) - 1) : q_Met q_mt l 1 k_X10_needLane 0 [.inr (.inr (0, 0)), .inl x] S (fun _ S' => S' = S) := c_needLane l S (by rw [hC.1.2.2.2.1.1]; exact h)
def isLn (a : AS) (x : Int32) : Prop := 0 ≤ x ∧ x ≤ nI (aY a 0 0) - 1
def isCr (a : AS) (x : Int32) : Prop := 0 ≤ x ∧ x ≤ nI (aY a 1 0) - 1
theorem isLn_ex {a : AS} {B : Nat} (hO : OKA a B) {x : Int32} (h : isLn a x) : ∃ k, k < aY a 0 0 ∧ x = nI k := i_rng1 (by have := hO.1.1; omega) h
theorem isCr_ex {a : AS} {B : Nat} (hO : OKA a B) {x : Int32} (h : isCr a x) : ∃ k, k < aY a 1 0 ∧ x = nI k := i_rng1 (by have := hO.1.2.1; omega) h
noncomputable def spL (a : AS) (x : Int32) (c : Prop) (r : SPR) : SPR := @ite _ (isLn a x) (Classical.propDecidable _) (@ite _ c (Classical.propDecidable _) r (.inl 2, aXi a)) (.inl 1, aXn a)
noncomputable def spK (a : AS) (x : Int32) (c : Prop) (r : SPR) : SPR := @ite _ (isCr a x) (Classical.propDecidable _) (@ite _ c (Classical.propDecidable _) r (.inl 2, aXi a)) (.inl 1, aXn a)
noncomputable def spI (a : AS) (c : Prop) (r : SPR) : SPR := @ite _ c (Classical.propDecidable _) r (.inl 1, aXi a)
theorem spL_1 {a : AS} {x : Int32} {c : Prop} {r : SPR} (h : ¬ isLn a x) : spL a x c r = (.inl 1, aXn a) := if_neg h
theorem spL_2 {a : AS} {x : Int32} {c : Prop} {r : SPR} (h : isLn a x) (hc : ¬ c) : spL a x c r = (.inl 2, aXi a) := (if_pos h).trans (if_neg hc)
theorem spL_3 {a : AS} {x : Int32} {c : Prop} {r : SPR} (h : isLn a x) (hc : c) : spL a x c r = r := (if_pos h).trans (if_pos hc)
theorem spK_1 {a : AS} {x : Int32} {c : Prop} {r : SPR} (h : ¬ isCr a x) : spK a x c r = (.inl 1, aXn a) := if_neg h
theorem spK_2 {a : AS} {x : Int32} {c : Prop} {r : SPR} (h : isCr a x) (hc : ¬ c) : spK a x c r = (.inl 2, aXi a) := (if_pos h).trans (if_neg hc)
theorem spK_3 {a : AS} {x : Int32} {c : Prop} {r : SPR} (h : isCr a x) (hc : c) : spK a x c r = r := (if_pos h).trans (if_pos hc)
theorem spI_1 {a : AS} {c : Prop} {r : SPR} (hc : ¬ c) : spI a c r = (.inl 1, aXi a) := if_neg hc
theorem spI_2 {a : AS} {c : Prop} {r : SPR} (hc : c) : spI a c r = r := if_pos hc
def lnV (a : AS) (k : Nat) : Nat → Int32
  | 0 => nI (plc (aY a) k)
  | 1 => rmI (aY a) (aV a).1 k
  | 2 => oI ((aV a).1 k).head?
  | 3 => nI (bo ((aV a).1 k))
  | _ => oI ((aV a).1 k).getLast?
noncomputable def sp_lane (a : AS) (x y : Int32) : SPR := spL a x (0 ≤ y ∧ y ≤ 4) (.inr (lnV a x.toNatClampNeg y.toNatClampNeg), a)
def crV (a : AS) (c : Nat) : Nat → Int32
  | 0 => nI (lgt (aY a) c)
  | 1 => nI (hrt (aY a) c)
  | 2 => nI (trt (aY a) c)
  | 3 => oI (lnof (aV a).1 c)
  | 4 => oI (fpl (aY a) (aV a).1 c)
  | 5 => nI ((aV a).2.2 c)
  | _ => nI (kyt (aY a) c)
noncomputable def sp_car (a : AS) (x y : Int32) : SPR := spK a x (0 ≤ y ∧ y ≤ 6) (.inr (crV a x.toNatClampNeg y.toNatClampNeg), a)
noncomputable def sp_on (a : AS) (x y : Int32) : SPR := spL a x True (.inr (oI (onp (aY a) (aV a).1 x.toNatClampNeg y.toInt)), a)
noncomputable def sp_ahead (a : AS) (x : Int32) : SPR := spK a x True (.inr (nI (bo (ahd (aV a).1 x.toNatClampNeg))), a)
noncomputable def sp_goes (a : AS) (x : Int32) : SPR := spK a x True (.inr (bI (gos (aY a) (aV a).1 x.toNatClampNeg)), a)
noncomputable def sp_secs (a : AS) (x y : Int32) : SPR := spK a x (0 ≤ y ∧ y ≤ 1) (.inr (nI (secn (lvv (fcs (aY a) (aV a) x.toNatClampNeg y) (aC a)))), a)
theorem a_lane (l : Launch) (hl : l.stackTraces = false) {S : qSt} {t : Nat} {a : AS} {B : Nat} (hC : CL S t a) (hO : OKA a B) (ht : t + 25 < 65536) (x y : Int32) : CA l k_X10_lane [.inr (.inr (0, 0)), .inl x, .inl y] S t nmC (sp_lane a x y) := by
  unfold sp_lane
  by_cases h1 : isLn a x
  · by_cases h2 : 0 ≤ y ∧ y ≤ 4
    · rw [spL_3 h1 h2]
      obtain ⟨k, hk, rfl⟩ := isLn_ex hO h1
      have hH := hC.2.2.2.1
      have hV := hH.2.2 (aW a) (Nat.le_refl _)
      have hY := hC.1.2.2.2
      have gv := hO.v
      have h3 := hO.1.1
      have h6 := hO.1.2.1
      rw [i_cl (by omega)]
      refine CA_s (d := 5) (by decide) hC ?_
      refine q_meth zoX10_lane q_fos (Nat.le_of_ble_eq_true rfl) ?_
      intro AT step
      refine step 40 [] 0 _ _ _ ?_
      simp only [q_vcs, q_vcc, q_vl, q_vu, ↓reduceIte, Nat.reduceEqDiff, Bool.false_eq_true, q_isc, q_mk, q_msk, zbX10_lane, q_pad, q_ent, q_get, q_put, q_nl, q_w, List.cons_append, List.nil_append, q_aks, q_als, Nat.reduceAdd, Nat.reduceLeDiff, Nat.zero_le, true_and, and_true, Option.some.injEq, Sum.inl.injEq, Sum.inr.injEq, true_or, or_true, and_self, q_sw]
      refine q_u0 (by decide) (c_needLaneO l hC h1) ?_
      refine q_u1 (by decide) (c_isWithin l S y 0 4) ?_
      rw [decide_eq_true h2]
      refine q_u0 (by decide) (c_need1 l S) ?_
      refine q_u29 (by decide) (c_latest l S hH) ?_
      rw [hV.1]
      refine ⟨fun e => ?_, fun e0 => ⟨fun e => ?_, fun e1 => ⟨fun e => ?_, fun e2 => ⟨fun e => ?_, fun e3 => ?_⟩⟩⟩⟩
      · subst e; exact q_u1 (by decide) (c_placesOf l S hO.1 hY.1 (k := k) (by omega)) ⟨rfl, rfl⟩
      · subst e; exact q_u1 (by decide) (c_roomOf l S hO.1 hY.1 gv.1.1 (show k < 3 by omega)) ⟨rfl, rfl⟩
      · subst e; exact q_u1 (by decide) (c_frontOf l S gv.1.1 (show k < 3 by omega)) ⟨rfl, rfl⟩
      · subst e
        refine q_u1 (by decide) (c_rowOf l S gv.1.1 (show k < 3 by omega)) ?_
        have hr := st_row gv.1.1 (show k < 3 by omega)
        rw [nI_l (by have := er_18 hr; omega)]
        exact q_u1 (by decide) (c_carsInRow l S hr) ⟨rfl, rfl⟩
      · have hx : y = nI 4 := i_last (by decide) h2 (fun k hk => by
          match k, hk with
          | 0, _ => exact e0
          | 1, _ => exact e1
          | 2, _ => exact e2
          | 3, _ => exact e3)
        subst hx
        exact q_u1 (by decide) (c_carAtWall l S gv.1.1 (show k < 3 by omega)) ⟨rfl, rfl⟩
    · rw [spL_2 h1 h2]
      refine CA_x (d := 7) (by decide) ?_
      refine q_methC zoX10_lane (Nat.le_of_ble_eq_true rfl) ?_
      intro AT step hX
      refine step 40 [(2, [true, true, true, true, true])] 0 _ _ _ ?_
      simp only [q_vcs, q_vcc, q_vl, q_vu, ↓reduceIte, Nat.reduceEqDiff, Bool.false_eq_true, q_isc, q_mk, q_msk, zbX10_lane, q_pad, q_ent, q_get, q_put, q_nl, q_w, List.cons_append, List.nil_append, q_aks, q_als, Nat.reduceAdd, Nat.reduceLeDiff, Nat.zero_le, true_and, and_true, Option.some.injEq, Sum.inl.injEq, Sum.inr.injEq, true_or, or_true, and_self, q_sw]
      refine q_u0 (by decide) (c_needLaneO l hC h1) ?_
      refine q_u1 (by decide) (c_isWithin l S y 0 4) ?_
      rw [decide_eq_false h2]
      exact hX 2 _ _ _ ⟨_, _, _, _, _, _, _, _, _, _, _, _, _, zbX10_lane.2.2.1, rfl, Nat.le_of_ble_eq_true rfl, Nat.le_of_ble_eq_true rfl, by decide, c_needX l hl hC nmC 2 rfl⟩
  · rw [spL_1 h1]
    refine CA_x (d := 7) (by decide) ?_
    refine q_methC zoX10_lane (Nat.le_of_ble_eq_true rfl) ?_
    intro AT step hX
    refine step 40 [(1, [true, true, true, true, true])] 0 _ _ _ ?_
    simp only [q_vcs, q_vcc, q_vl, q_vu, ↓reduceIte, Nat.reduceEqDiff, Bool.false_eq_true, q_isc, q_mk, q_msk, zbX10_lane, q_pad, q_ent, q_get, q_put, q_nl, q_w, List.cons_append, List.nil_append, q_aks, q_als, Nat.reduceAdd, Nat.reduceLeDiff, Nat.zero_le, true_and, and_true, Option.some.injEq, Sum.inl.injEq, Sum.inr.injEq, true_or, or_true, and_self, q_sw]
    exact hX 1 _ _ _ ⟨_, _, _, _, _, _, _, _, _, _, _, _, _, zbX10_lane.2.1, rfl, Nat.le_of_ble_eq_true rfl, Nat.le_of_ble_eq_true rfl, by decide, c_needLaneX l hl hC h1⟩
theorem a_car (l : Launch) (hl : l.stackTraces = false) {S : qSt} {t : Nat} {a : AS} {B : Nat} (hC : CL S t a) (hO : OKA a B) (ht : t + 25 < 65536) (x y : Int32) : CA l k_X10_car [.inr (.inr (0, 0)), .inl x, .inl y] S t nmC (sp_car a x y) := by
  unfold sp_car
  by_cases h1 : isCr a x
  · by_cases h2 : 0 ≤ y ∧ y ≤ 6
    · rw [spK_3 h1 h2]
      obtain ⟨k, hk, rfl⟩ := isCr_ex hO h1
      have hH := hC.2.2.2.1
      have hV := hH.2.2 (aW a) (Nat.le_refl _)
      have hY := hC.1.2.2.2
      have gv := hO.v
      have h3 := hO.1.1
      have h6 := hO.1.2.1
      rw [i_cl (by omega)]
      refine CA_s (d := 5) (by decide) hC ?_
      refine q_meth zoX10_car q_fos (Nat.le_of_ble_eq_true rfl) ?_
      intro AT step
      refine step 40 [] 0 _ _ _ ?_
      simp only [q_vcs, q_vcc, q_vl, q_vu, ↓reduceIte, Nat.reduceEqDiff, Bool.false_eq_true, q_isc, q_mk, q_msk, zbX10_car, q_pad, q_ent, q_get, q_put, q_nl, q_w, List.cons_append, List.nil_append, q_aks, q_als, Nat.reduceAdd, Nat.reduceLeDiff, Nat.zero_le, true_and, and_true, Option.some.injEq, Sum.inl.injEq, Sum.inr.injEq, true_or, or_true, and_self, q_sw]
      refine q_u0 (by decide) (c_needCarO l hC h1) ?_
      refine q_u1 (by decide) (c_isWithin l S y 0 6) ?_
      rw [decide_eq_true h2]
      refine q_u0 (by decide) (c_need1 l S) ?_
      refine q_u29 (by decide) (c_latest l S hH) ?_
      refine ⟨fun e => ?_, fun e0 => ⟨fun e => ?_, fun e1 => ⟨fun e => ?_, fun e2 => ⟨fun e => ?_, fun e3 => ⟨fun e => ?_, fun e4 => ⟨fun e => ?_, fun e5 => ?_⟩⟩⟩⟩⟩⟩
      · subst e; exact q_u1 (by decide) (c_lengthOf l S hO.1 hY.1 (k := k) (by omega)) ⟨rfl, rfl⟩
      · subst e; exact q_u1 (by decide) (c_hourOf l S hO.1 hY.1 (k := k) (by omega)) ⟨rfl, rfl⟩
      · subst e; exact q_u1 (by decide) (c_triesOf l S hO.1 hY.1 (k := k) (by omega)) ⟨rfl, rfl⟩
      · subst e
        rw [hV.1]
        exact q_u1 (by decide) (c_laneOf l S gv.1.1 (c := k) (by omega)) ⟨rfl, rfl⟩
      · subst e
        rw [hV.1]
        exact q_u1 (by decide) (c_firstPlaceOf l S hO.1 hY.1 gv.1.1 (c := k) (by omega)) ⟨rfl, rfl⟩
      · subst e; exact q_u1 (by decide) (c_movesOf l S hV (c := k) (by omega)) ⟨rfl, rfl⟩
      · have hx : y = nI 6 := i_last (by decide) h2 (fun k hk => by
          match k, hk with
          | 0, _ => exact e0
          | 1, _ => exact e1
          | 2, _ => exact e2
          | 3, _ => exact e3
          | 4, _ => exact e4
          | 5, _ => exact e5)
        subst hx
        exact q_u1 (by decide) (c_keysOf l S hO.1 hY.1 (k := k) (by omega)) ⟨rfl, rfl⟩
    · rw [spK_2 h1 h2]
      refine CA_x (d := 7) (by decide) ?_
      refine q_methC zoX10_car (Nat.le_of_ble_eq_true rfl) ?_
      intro AT step hX
      refine step 40 [(2, [true, true, true, true])] 0 _ _ _ ?_
      simp only [q_vcs, q_vcc, q_vl, q_vu, ↓reduceIte, Nat.reduceEqDiff, Bool.false_eq_true, q_isc, q_mk, q_msk, zbX10_car, q_pad, q_ent, q_get, q_put, q_nl, q_w, List.cons_append, List.nil_append, q_aks, q_als, Nat.reduceAdd, Nat.reduceLeDiff, Nat.zero_le, true_and, and_true, Option.some.injEq, Sum.inl.injEq, Sum.inr.injEq, true_or, or_true, and_self, q_sw]
      refine q_u0 (by decide) (c_needCarO l hC h1) ?_
      refine q_u1 (by decide) (c_isWithin l S y 0 6) ?_
      rw [decide_eq_false h2]
      exact hX 2 _ _ _ ⟨_, _, _, _, _, _, _, _, _, _, _, _, _, zbX10_car.2.2.1, rfl, Nat.le_of_ble_eq_true rfl, Nat.le_of_ble_eq_true rfl, by decide, c_needX l hl hC nmC 2 rfl⟩
  · rw [spK_1 h1]
    refine CA_x (d := 7) (by decide) ?_
    refine q_methC zoX10_car (Nat.le_of_ble_eq_true rfl) ?_
    intro AT step hX
    refine step 40 [(1, [true, true, true, true])] 0 _ _ _ ?_
    simp only [q_vcs, q_vcc, q_vl, q_vu, ↓reduceIte, Nat.reduceEqDiff, Bool.false_eq_true, q_isc, q_mk, q_msk, zbX10_car, q_pad, q_ent, q_get, q_put, q_nl, q_w, List.cons_append, List.nil_append, q_aks, q_als, Nat.reduceAdd, Nat.reduceLeDiff, Nat.zero_le, true_and, and_true, Option.some.injEq, Sum.inl.injEq, Sum.inr.injEq, true_or, or_true, and_self, q_sw]
    exact hX 1 _ _ _ ⟨_, _, _, _, _, _, _, _, _, _, _, _, _, zbX10_car.2.1, rfl, Nat.le_of_ble_eq_true rfl, Nat.le_of_ble_eq_true rfl, by decide, c_needCarX l hl hC h1⟩
theorem a_on (l : Launch) (hl : l.stackTraces = false) {S : qSt} {t : Nat} {a : AS} {B : Nat} (hC : CL S t a) (hO : OKA a B) (ht : t + 25 < 65536) (x y : Int32) : CA l k_X10_on [.inr (.inr (0, 0)), .inl x, .inl y] S t nmC (sp_on a x y) := by
  unfold sp_on
  by_cases h1 : isLn a x
  · rw [spL_3 h1 trivial]
    obtain ⟨k, hk, rfl⟩ := isLn_ex hO h1
    have hH := hC.2.2.2.1
    have hV := hH.2.2 (aW a) (Nat.le_refl _)
    have hY := hC.1.2.2.2
    have gv := hO.v
    have h3 := hO.1.1
    have h6 := hO.1.2.1
    rw [i_cl (by omega)]
    refine CA_s (d := 5) (by decide) hC ?_
    refine q_meth zoX10_on q_fos (Nat.le_of_ble_eq_true rfl) ?_
    intro AT step
    refine step 40 [] 0 _ _ _ ?_
    simp only [q_vcs, q_vcc, q_vl, q_vu, ↓reduceIte, Nat.reduceEqDiff, Bool.false_eq_true, q_isc, q_mk, q_msk, zbX10_on, q_pad, q_ent, q_get, q_put, q_nl, q_w, List.cons_append, List.nil_append, q_aks, q_als, Nat.reduceAdd, Nat.reduceLeDiff, Nat.zero_le, true_and, and_true, Option.some.injEq, Sum.inl.injEq, Sum.inr.injEq, true_or, or_true, and_self, q_sw]
    refine q_u0 (by decide) (c_needLaneO l hC h1) ?_
    refine q_u29 (by decide) (c_latest l S hH) ?_
    rw [hV.1]
    exact q_u1 (by decide) (c_carOn l S hO.1 hY.1 gv.1.1 (show k < 3 by omega) y) ⟨rfl, rfl⟩
  · rw [spL_1 h1]
    refine CA_x (d := 7) (by decide) ?_
    refine q_methC zoX10_on (Nat.le_of_ble_eq_true rfl) ?_
    intro AT step hX
    refine step 40 [(1, [true, true, true])] 0 _ _ _ ?_
    simp only [q_vcs, q_vcc, q_vl, q_vu, ↓reduceIte, Nat.reduceEqDiff, Bool.false_eq_true, q_isc, q_mk, q_msk, zbX10_on, q_pad, q_ent, q_get, q_put, q_nl, q_w, List.cons_append, List.nil_append, q_aks, q_als, Nat.reduceAdd, Nat.reduceLeDiff, Nat.zero_le, true_and, and_true, Option.some.injEq, Sum.inl.injEq, Sum.inr.injEq, true_or, or_true, and_self, q_sw]
    exact hX 1 _ _ _ ⟨_, _, _, _, _, _, _, _, _, _, _, _, _, zbX10_on.2, rfl, Nat.le_of_ble_eq_true rfl, Nat.le_of_ble_eq_true rfl, by decide, c_needLaneX l hl hC h1⟩
theorem a_ahead (l : Launch) (hl : l.stackTraces = false) {S : qSt} {t : Nat} {a : AS} {B : Nat} (hC : CL S t a) (hO : OKA a B) (ht : t + 25 < 65536) (x : Int32) : CA l k_X10_ahead [.inr (.inr (0, 0)), .inl x] S t nmC (sp_ahead a x) := by
  unfold sp_ahead
  by_cases h1 : isCr a x
  · rw [spK_3 h1 trivial]
    obtain ⟨k, hk, rfl⟩ := isCr_ex hO h1
    have hH := hC.2.2.2.1
    have hV := hH.2.2 (aW a) (Nat.le_refl _)
    have hY := hC.1.2.2.2
    have gv := hO.v
    have h3 := hO.1.1
    have h6 := hO.1.2.1
    rw [i_cl (by omega)]
    refine CA_s (d := 5) (by decide) hC ?_
    refine q_meth zoX10_ahead q_fos (Nat.le_of_ble_eq_true rfl) ?_
    intro AT step
    refine step 40 [] 0 _ _ _ ?_
    simp only [q_vcs, q_vcc, q_vl, q_vu, ↓reduceIte, Nat.reduceEqDiff, Bool.false_eq_true, q_isc, q_mk, q_msk, zbX10_ahead, q_pad, q_ent, q_get, q_put, q_nl, q_w, List.cons_append, List.nil_append, q_aks, q_als, Nat.reduceAdd, Nat.reduceLeDiff, Nat.zero_le, true_and, and_true, Option.some.injEq, Sum.inl.injEq, Sum.inr.injEq, true_or, or_true, and_self, q_sw]
    refine q_u0 (by decide) (c_needCarO l hC h1) ?_
    refine q_u29 (by decide) (c_latest l S hH) ?_
    rw [hV.1]
    exact q_u1 (by decide) (c_aheadOf l S gv.1.1 (c := k) (by omega)) ⟨rfl, rfl⟩
  · rw [spK_1 h1]
    refine CA_x (d := 7) (by decide) ?_
    refine q_methC zoX10_ahead (Nat.le_of_ble_eq_true rfl) ?_
    intro AT step hX
    refine step 40 [(1, [true, true])] 0 _ _ _ ?_
    simp only [q_vcs, q_vcc, q_vl, q_vu, ↓reduceIte, Nat.reduceEqDiff, Bool.false_eq_true, q_isc, q_mk, q_msk, zbX10_ahead, q_pad, q_ent, q_get, q_put, q_nl, q_w, List.cons_append, List.nil_append, q_aks, q_als, Nat.reduceAdd, Nat.reduceLeDiff, Nat.zero_le, true_and, and_true, Option.some.injEq, Sum.inl.injEq, Sum.inr.injEq, true_or, or_true, and_self, q_sw]
    exact hX 1 _ _ _ ⟨_, _, _, _, _, _, _, _, _, _, _, _, _, zbX10_ahead.2, rfl, Nat.le_of_ble_eq_true rfl, Nat.le_of_ble_eq_true rfl, by decide, c_needCarX l hl hC h1⟩
theorem a_goes (l : Launch) (hl : l.stackTraces = false) {S : qSt} {t : Nat} {a : AS} {B : Nat} (hC : CL S t a) (hO : OKA a B) (ht : t + 25 < 65536) (x : Int32) : CA l k_X10_goes [.inr (.inr (0, 0)), .inl x] S t nmC (sp_goes a x) := by
  unfold sp_goes
  by_cases h1 : isCr a x
  · rw [spK_3 h1 trivial]
    obtain ⟨k, hk, rfl⟩ := isCr_ex hO h1
    have hH := hC.2.2.2.1
    have hV := hH.2.2 (aW a) (Nat.le_refl _)
    have hY := hC.1.2.2.2
    have gv := hO.v
    have h3 := hO.1.1
    have h6 := hO.1.2.1
    rw [i_cl (by omega)]
    refine CA_s (d := 5) (by decide) hC ?_
    refine q_meth zoX10_goes q_fos (Nat.le_of_ble_eq_true rfl) ?_
    intro AT step
    refine step 40 [] 0 _ _ _ ?_
    simp only [q_vcs, q_vcc, q_vl, q_vu, ↓reduceIte, Nat.reduceEqDiff, Bool.false_eq_true, q_isc, q_mk, q_msk, zbX10_goes, q_pad, q_ent, q_get, q_put, q_nl, q_w, List.cons_append, List.nil_append, q_aks, q_als, Nat.reduceAdd, Nat.reduceLeDiff, Nat.zero_le, true_and, and_true, Option.some.injEq, Sum.inl.injEq, Sum.inr.injEq, true_or, or_true, and_self, q_sw]
    refine q_u0 (by decide) (c_needCarO l hC h1) ?_
    refine q_u29 (by decide) (c_latest l S hH) ?_
    rw [hV.1]
    refine q_u1 (by decide) (c_getsOutAlone l S hO.1 hY gv.1 hk) ?_
    exact ⟨by cases gos (aY a) (aV a).1 k <;> decide, rfl, rfl⟩
  · rw [spK_1 h1]
    refine CA_x (d := 7) (by decide) ?_
    refine q_methC zoX10_goes (Nat.le_of_ble_eq_true rfl) ?_
    intro AT step hX
    refine step 40 [(1, [true, true])] 0 _ _ _ ?_
    simp only [q_vcs, q_vcc, q_vl, q_vu, ↓reduceIte, Nat.reduceEqDiff, Bool.false_eq_true, q_isc, q_mk, q_msk, zbX10_goes, q_pad, q_ent, q_get, q_put, q_nl, q_w, List.cons_append, List.nil_append, q_aks, q_als, Nat.reduceAdd, Nat.reduceLeDiff, Nat.zero_le, true_and, and_true, Option.some.injEq, Sum.inl.injEq, Sum.inr.injEq, true_or, or_true, and_self, q_sw]
    exact hX 1 _ _ _ ⟨_, _, _, _, _, _, _, _, _, _, _, _, _, zbX10_goes.2, rfl, Nat.le_of_ble_eq_true rfl, Nat.le_of_ble_eq_true rfl, by decide, c_needCarX l hl hC h1⟩
theorem a_seconds (l : Launch) (hl : l.stackTraces = false) {S : qSt} {t : Nat} {a : AS} {B : Nat} (hC : CL S t a) (hO : OKA a B) (ht : t + 25 < 65536) (x y : Int32) : CA l k_X10_seconds [.inr (.inr (0, 0)), .inl x, .inl y] S t nmC (sp_secs a x y) := by
  unfold sp_secs
  by_cases h1 : isCr a x
  · by_cases h2 : 0 ≤ y ∧ y ≤ 1
    · rw [spK_3 h1 h2]
      obtain ⟨k, hk, rfl⟩ := isCr_ex hO h1
      have hH := hC.2.2.2.1
      have hV := hH.2.2 (aW a) (Nat.le_refl _)
      have hY := hC.1.2.2.2
      have gv := hO.v
      have h3 := hO.1.1
      have h6 := hO.1.2.1
      rw [i_cl (by omega)]
      refine CA_r (d := 5) (by decide) ?_
      refine q_meth zoX10_seconds q_fos (Nat.le_of_ble_eq_true rfl) ?_
      intro AT step
      refine step 40 [] 0 _ _ _ ?_
      simp only [q_vcs, q_vcc, q_vl, q_vu, ↓reduceIte, Nat.reduceEqDiff, Bool.false_eq_true, q_isc, q_mk, q_msk, zbX10_seconds, q_pad, q_ent, q_get, q_put, q_nl, q_w, List.cons_append, List.nil_append, q_aks, q_als, Nat.reduceAdd, Nat.reduceLeDiff, Nat.zero_le, true_and, and_true, Option.some.injEq, Sum.inl.injEq, Sum.inr.injEq, true_or, or_true, and_self, q_sw]
      refine q_u0 (by decide) (c_needCarO l hC h1) ?_
      refine q_u1 (by decide) (c_isWithin l S y 0 1) ?_
      rw [decide_eq_true h2]
      refine q_u0 (by decide) (c_need1 l S) ?_
      refine q_u29 (by decide) (c_latest l S hH) ?_
      refine ⟨_, _, (by decide : 3 < 5), c_secondsNow l S y hO.1 hY.1 hV gv.1 hk hO.2.1 hC.2.1.2.2.2, fun v S' h => ?_⟩
      obtain ⟨hv, hf⟩ := h
      cases hv
      exact ⟨rfl, ⟨t, by omega, CL_kp hC (hf.mn (fun f i q => by omega)) (hC.2.2.2.2.2.2.2.2.fr hf (by omega) (by omega))⟩, hf.mn (fun f i q => by show f < 40; omega)⟩
    · rw [spK_2 h1 h2]
      refine CA_x (d := 7) (by decide) ?_
      refine q_methC zoX10_seconds (Nat.le_of_ble_eq_true rfl) ?_
      intro AT step hX
      refine step 40 [(2, [true, true, true])] 0 _ _ _ ?_
      simp only [q_vcs, q_vcc, q_vl, q_vu, ↓reduceIte, Nat.reduceEqDiff, Bool.false_eq_true, q_isc, q_mk, q_msk, zbX10_seconds, q_pad, q_ent, q_get, q_put, q_nl, q_w, List.cons_append, List.nil_append, q_aks, q_als, Nat.reduceAdd, Nat.reduceLeDiff, Nat.zero_le, true_and, and_true, Option.some.injEq, Sum.inl.injEq, Sum.inr.injEq, true_or, or_true, and_self, q_sw]
      refine q_u0 (by decide) (c_needCarO l hC h1) ?_
      refine q_u1 (by decide) (c_isWithin l S y 0 1) ?_
      rw [decide_eq_false h2]
      exact hX 2 _ _ _ ⟨_, _, _, _, _, _, _, _, _, _, _, _, _, zbX10_seconds.2.2, rfl, Nat.le_of_ble_eq_true rfl, Nat.le_of_ble_eq_true rfl, by decide, c_needX l hl hC nmC 2 rfl⟩
  · rw [spK_1 h1]
    refine CA_x (d := 7) (by decide) ?_
    refine q_methC zoX10_seconds (Nat.le_of_ble_eq_true rfl) ?_
    intro AT step hX
    refine step 40 [(1, [true, true, true])] 0 _ _ _ ?_
    simp only [q_vcs, q_vcc, q_vl, q_vu, ↓reduceIte, Nat.reduceEqDiff, Bool.false_eq_true, q_isc, q_mk, q_msk, zbX10_seconds, q_pad, q_ent, q_get, q_put, q_nl, q_w, List.cons_append, List.nil_append, q_aks, q_als, Nat.reduceAdd, Nat.reduceLeDiff, Nat.zero_le, true_and, and_true, Option.some.injEq, Sum.inl.injEq, Sum.inr.injEq, true_or, or_true, and_self, q_sw]
    exact hX 1 _ _ _ ⟨_, _, _, _, _, _, _, _, _, _, _, _, _, zbX10_seconds.2.1, rfl, Nat.le_of_ble_eq_true rfl, Nat.le_of_ble_eq_true rfl, by decide, c_needCarX l hl hC h1⟩
