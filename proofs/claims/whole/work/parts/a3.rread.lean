/-! The reference's questions, one by one -/
theorem RA_r {l : Launch} {k : Nat} {as : List qV} {S : qSt} {v : Int32} {a' : AS} {d : Nat} (hd : d ≤ 60) (h : q_Met q_mt l d k 1 as S (fun x S' => x = some (.inl v) ∧ q_I S' 40 0 0 = 0 ∧ RF S' a' ∧ fr Frf S S')) : RA l k as S (.inr v, a') := ⟨d, hd, h⟩
theorem fth {S : qSt} {v : Int32} : fr Frf S (q_wI S 40 0 0 v) := frf40 fr.rf (by decide)
theorem RA_s {l : Launch} {k : Nat} {as : List qV} {S : qSt} {v : Int32} {a : AS} {d : Nat} (hd : d ≤ 60) (hR : RF S a) (h : q_Met q_mt l d k 1 as S (fun x S' => x = some (.inl v) ∧ S' = q_wI S 40 0 0 0)) : RA l k as S (.inr v, a) := RA_r hd (h.post (fun r S' q => by rw [q.2]; exact ⟨q.1, by rw [q_I_wI, if_pos ⟨rfl, rfl, rfl⟩], hR.th, fth⟩))
theorem RA_i {l : Launch} {k : Nat} {as : List qV} {S : qSt} {a : AS} {d c : Nat} (hd : d ≤ 60) (hR : RF S a) (h : q_Met q_mt l d k 1 as S (fun x S' => x = some (.inl 0) ∧ S' = q_wI (q_wI (q_wI S 40 0 0 0) 40 0 0 (nI c)) 42 0 1 (q_I (q_wI S 40 0 0 0) 42 0 1 + 1))) : RA l k as S (.inl c, aXi a) := ⟨d, hd, h.post (fun r S' q => by rw [q.2]; exact ⟨q.1, by rw [q_I_wI, if_neg (by omega), q_I_wI, if_pos ⟨rfl, rfl, rfl⟩]; rfl, (hR.bad c).1, frf40 (frf40 fth (by decide)) (by decide)⟩)⟩
theorem RA_n {l : Launch} {k : Nat} {as : List qV} {S : qSt} {a : AS} {d c : Nat} (hd : d ≤ 60) (hR : RF S a) (h : q_Met q_mt l d k 1 as S (fun x S' => x = some (.inl 0) ∧ S' = q_wI (q_wI (q_wI S 40 0 0 0) 40 0 0 (nI c)) 42 0 0 (q_I (q_wI S 40 0 0 0) 42 0 0 + 1))) : RA l k as S (.inl c, aXn a) := ⟨d, hd, h.post (fun r S' q => by rw [q.2]; exact ⟨q.1, by rw [q_I_wI, if_neg (by omega), q_I_wI, if_pos ⟨rfl, rfl, rfl⟩]; rfl, (hR.bad c).2, frf40 (frf40 fth (by decide)) (by decide)⟩)⟩
theorem RF_kp {S S' : qSt} {a : AS} (h : RF S a) (hf : fr (fun f i => f = 61 ∨ f = 62 ∨ (f = 65 ∧ 1 ≤ i ∧ i ≤ 3) ∨ f = 69 ∨ f = 70 ∨ f = 71 ∨ f = 72) S S') : RF S' a := by
  obtain ⟨h1, h2, h3, h4, h5, h6, h7, h8, h9⟩ := h
  have e0 := (hf 40 0 (by omega)).1
  refine ⟨h1.fr hf (fun _ => by omega) (fun _ => by omega) (fun _ => by omega) (fun _ => by omega), h2.fr hf (by omega) (fun _ => by omega), ?_, ⟨?_, h4.2.1.fr hf (by omega), fun j hj => (h4.2.2 j hj).fr hf (by omega)⟩, ⟨?_, fun i hi => ?_⟩, ⟨?_, ?_⟩, ?_, ?_, ?_⟩
  · obtain ⟨m, w, o, k1, k2⟩ := h3
    exact ⟨m, w, o, k1.fr9 hf (by omega) (fun _ => by omega), k2⟩
  · rw [e0]; exact h4.1
  · rw [e0]; exact h5.1
  · unfold MI
    rw [(hf 68 i (by omega)).1]
    exact h5.2 i hi
  · rw [e0]; exact h6.1
  · rw [(hf 41 0 (by omega)).1]; exact h6.2
  · rw [e0]; exact h7
  · unfold RF8
    rw [e0, (hf 42 0 (by omega)).1]
    exact h8
  · rw [e0]; exact h9
theorem r_fault (l : Launch) {S : qSt} {a : AS} {B : Nat} (hR : RF S a) (hO : OKA a B)  : RA l k_X11_fault [.inr (.inr (40, 0))] S (sp_fault a) := by
  refine RA_s (d := 5) (by decide) hR ?_
  refine q_meth zoX11_fault q_fos (Nat.le_of_ble_eq_true rfl) ?_
  intro AT step
  refine step 40 [] 0 _ _ _ ?_
  simp only [q_vcs, q_vcc, q_vl, q_vu, ↓reduceIte, Nat.reduceEqDiff, Bool.false_eq_true, q_isc, q_mk, q_msk, zbX11_fault, q_pad, q_ent, q_get, q_put, q_nl, q_w, List.cons_append, List.nil_append, q_aks, q_als, Nat.reduceAdd, Nat.reduceLeDiff, Nat.zero_le, true_and, and_true, Option.some.injEq, Sum.inl.injEq, Sum.inr.injEq, true_or, or_true, and_self, q_sw]
  exact hR.th.2.2.2.2.2.2.1
theorem r_status (l : Launch) {S : qSt} {a : AS} {B : Nat} (hR : RF S a) (hO : OKA a B) (x : Int32) : RA l k_X11_status [.inr (.inr (40, 0)), .inl x] S (sp_stat a x) := by
  refine RA_s (d := 5) (by decide) hR ?_
  have h8 := hR.th (v := 0) |>.2.2.2.2.2.2.2.1
  refine q_meth zoX11_status q_fos (Nat.le_of_ble_eq_true rfl) ?_
  intro AT step
  refine step 40 [] 0 _ _ _ ?_
  simp only [q_vcs, q_vcc, q_vl, q_vu, ↓reduceIte, Nat.reduceEqDiff, Bool.false_eq_true, q_isc, q_mk, q_msk, zbX11_status, q_pad, q_ent, q_get, q_put, q_nl, q_w, List.cons_append, List.nil_append, q_aks, q_als, Nat.reduceAdd, Nat.reduceLeDiff, Nat.zero_le, true_and, and_true, Option.some.injEq, Sum.inl.injEq, Sum.inr.injEq, true_or, or_true, and_self, q_sw]
  refine q_u1 (by decide) (c_min l _ x 0 1) ?_
  by_cases h : 0 ≤ x ∧ x ≤ 1
  · rw [decide_eq_true h]
    obtain ⟨n, hn, rfl⟩ := i_rng (m := 1) (by decide) h.1 h.2
    rw [i_cl (by omega)]
    have : n = 0 ∨ n = 1 := by omega
    rcases this with e | e <;> subst e
    · refine ⟨fun q => absurd q (by decide), fun _ => ⟨i_in (by decide) (by decide), ?_⟩⟩
      exact ⟨h8.2.1, rfl⟩
    · refine ⟨fun q => absurd q (by decide), fun _ => ⟨i_in (by decide) (by decide), ?_⟩⟩
      exact ⟨h8.2.2, rfl⟩
  · rw [decide_eq_false h]
    refine ⟨fun _ => ?_, fun q => absurd rfl q⟩
    rw [if_neg (fun e => h (by rw [e]; decide)), if_neg (fun e => h (by rw [e]; decide))]
    first | rfl | exact ⟨rfl, rfl⟩ | trivial
theorem r_count (l : Launch) {S : qSt} {a : AS} {B : Nat} (hR : RF S a) (hO : OKA a B) (x : Int32) : RA l k_X11_count [.inr (.inr (40, 0)), .inl x] S (sp_cnt a x) := by
  refine RA_s (d := 5) (by decide) hR ?_
  have hR0 := hR.th (v := 0)
  refine q_meth zoX11_count q_fos (Nat.le_of_ble_eq_true rfl) ?_
  intro AT step
  refine step 40 [] 0 _ _ _ ?_
  simp only [q_vcs, q_vcc, q_vl, q_vu, ↓reduceIte, Nat.reduceEqDiff, Bool.false_eq_true, q_isc, q_mk, q_msk, zbX11_count, q_pad, q_ent, q_get, q_put, q_nl, q_w, List.cons_append, List.nil_append, q_aks, q_als, Nat.reduceAdd, Nat.reduceLeDiff, Nat.zero_le, true_and, and_true, Option.some.injEq, Sum.inl.injEq, Sum.inr.injEq, true_or, or_true, and_self, q_sw]
  rw [hR0.2.2.2.2.1.1, hR0.2.2.2.2.2.1.1, hR0.2.2.2.1.1]
  refine ⟨fun e0 => ⟨fun e1 => ⟨fun e2 => ?_, fun e2 => ?_⟩, fun e1 => ?_⟩, fun e0 => ?_⟩
  · rw [if_neg e0, if_neg e1, if_neg e2]
  · rw [if_neg e0, if_neg e1, if_pos e2]
  · rw [if_neg e0, if_pos e1]
  · rw [if_pos e0]
theorem r_told (l : Launch) {S : qSt} {a : AS} {B : Nat} (hR : RF S a) (hO : OKA a B) (x : Int32) : RA l k_X11_told [.inr (.inr (40, 0)), .inl x] S (sp_told a x) := by
  unfold sp_told
  by_cases h : 0 ≤ x ∧ x ≤ 9
  · rw [if_pos h]
    refine RA_s (d := 5) (by decide) hR ?_
    have hR0 := hR.th (v := 0)
    have gv := hO.v
    have hM := hR0.1
    have hV := hR0.2.2.2.1.2.1
    have h3 := hO.1.1
    refine q_meth zoX11_told q_fos (Nat.le_of_ble_eq_true rfl) ?_
    intro AT step
    have k12 : ∀ r k, k + r = aY a 0 0 → x = nI 8 → AT 12 [some (.inr (.inr (40, 0))), some (.inl (nI 8)), some (.inl (rma (aY a) (aV a).1 k)), some (.inl (nI k))] [] (q_wI S 40 0 0 0) := by
      intro r
      induction r with
      | zero =>
        intro k hk e8
        have hk : k = aY a 0 0 := by omega
        subst hk
        refine step 40 [(12, [true, true, true, true])] 12 _ _ _ ?_
        simp only [q_vcs, q_vcc, q_vl, q_vu, ↓reduceIte, Nat.reduceEqDiff, Bool.false_eq_true, q_isc, q_mk, q_msk, zbX11_told, q_pad, q_ent, q_get, q_put, q_nl, q_w, List.cons_append, List.nil_append, q_aks, q_als, Nat.reduceAdd, Nat.reduceLeDiff, Nat.zero_le, true_and, and_true, Option.some.injEq, Sum.inl.injEq, Sum.inr.injEq, true_or, or_true, and_self, q_sw]
        rw [show q_I (q_wI S 40 0 0 0) 44 0 (Int32.toNatClampNeg 0) = nI (aY a 0 0) from hM.1, nI_leI (by omega) (by omega)]
        exact ⟨i_in (k := 0) (by decide) (by decide), fun _ => by first | (rw [e8]; rfl) | (subst e8; exact ⟨rfl, rfl⟩), fun q => absurd (Nat.le_refl _) q⟩
      | succ r ih =>
        intro k hk e8
        refine step 40 [(12, [true, true, true, true])] 12 _ _ _ ?_
        simp only [q_vcs, q_vcc, q_vl, q_vu, ↓reduceIte, Nat.reduceEqDiff, Bool.false_eq_true, q_isc, q_mk, q_msk, zbX11_told, q_pad, q_ent, q_get, q_put, q_nl, q_w, List.cons_append, List.nil_append, q_aks, q_als, Nat.reduceAdd, Nat.reduceLeDiff, Nat.zero_le, true_and, and_true, Option.some.injEq, Sum.inl.injEq, Sum.inr.injEq, true_or, or_true, and_self, q_sw]
        rw [show q_I (q_wI S 40 0 0 0) 44 0 (Int32.toNatClampNeg 0) = nI (aY a 0 0) from hM.1, nI_leI (by omega) (by omega), nI_1]
        refine ⟨i_in (k := 0) (by decide) (by decide), fun q => absurd q (by omega), fun _ => ?_⟩
        refine q_u1 (by decide) (c_mroomOf l _ hO.1 hM gv.1 hV.1 (show k < aY a 0 0 by omega)) ?_
        exact ih (k + 1) (by omega) e8
    refine step 40 [(12, [true, true, true, true])] 0 _ _ _ ?_
    simp only [q_vcs, q_vcc, q_vl, q_vu, ↓reduceIte, Nat.reduceEqDiff, Bool.false_eq_true, q_isc, q_mk, q_msk, zbX11_told, q_pad, q_ent, q_get, q_put, q_nl, q_w, List.cons_append, List.nil_append, q_aks, q_als, Nat.reduceAdd, Nat.reduceLeDiff, Nat.zero_le, true_and, and_true, Option.some.injEq, Sum.inl.injEq, Sum.inr.injEq, true_or, or_true, and_self, q_sw]
    refine q_u1 (by decide) (c_min l _ x 0 9) ?_
    rw [decide_eq_true h]
    first | refine ⟨fun _ => ?_, fun q => absurd q (by decide)⟩ | refine ⟨fun q => absurd q (by decide), fun _ => ?_⟩
    refine q_u1 (by decide) (c_mbN l S (w := 1) (r := 1) (by decide) (by decide)) ?_
    first | refine ⟨fun _ => ?_, fun q => absurd q (by decide)⟩ | refine ⟨fun q => absurd q (by decide), fun _ => ?_⟩
    have v0 : ∀ k, k < 3 → vp_in (nI k) 3 := fun k hk => i_in hk (by decide)
    refine ⟨fun e => ?_, fun e0 => ⟨fun e => ?_, fun e1 => ⟨fun e => ?_, fun e2 => ⟨fun e => ?_, fun e3 => ⟨fun e => ?_, fun e4 => ⟨fun e => ?_, fun e5 => ⟨fun e => ?_, fun e6 => ⟨fun e => ?_, fun e7 => ⟨fun e => ?_, fun e8 => ?_⟩⟩⟩⟩⟩⟩⟩⟩⟩
    · subst e; first | exact ⟨v0 0 (by decide), hM.1⟩ | exact ⟨v0 0 (by decide), hM.1, rfl⟩
    · subst e; first | exact ⟨v0 1 (by decide), hM.2.1⟩ | exact ⟨v0 1 (by decide), hM.2.1, rfl⟩
    · subst e; exact q_u1 (by decide) (c_minsideOf l _ hO.1 hM gv.1 hV.1) (by first | rfl | exact ⟨rfl, rfl⟩)
    · subst e; first | exact ⟨i_in (k := 27) (by decide) (by decide), hV.2.2.1⟩ | exact ⟨i_in (k := 27) (by decide) (by decide), hV.2.2.1, rfl⟩
    · subst e; first | exact ⟨i_in (k := 28) (by decide) (by decide), hV.2.2.2⟩ | exact ⟨i_in (k := 28) (by decide) (by decide), hV.2.2.2, rfl⟩
    · subst e; exact q_u1 (by decide) (c_mpairsIn l _ hO.1 hM gv.1 hV.1) (by first | rfl | exact ⟨rfl, rfl⟩)
    · subst e
      obtain ⟨m, w, o, q1, q2, q3⟩ := hR0.2.2.1
      refine ⟨q1.1.trans ?_, rfl⟩
      rw [q3]
      rfl
    · subst e; exact ⟨hR0.2.2.2.2.2.2.2.1.1, rfl⟩
    · subst e; exact k12 (aY a 0 0) 0 (by omega) rfl
    · have hx : x = nI 9 := i_last (by decide) h (fun k hk => by
        match k, hk with
        | 0, _ => exact e0
        | 1, _ => exact e1
        | 2, _ => exact e2
        | 3, _ => exact e3
        | 4, _ => exact e4
        | 5, _ => exact e5
        | 6, _ => exact e6
        | 7, _ => exact e7
        | 8, _ => exact e8)
      subst hx
      refine ⟨v0 2 (by decide), i_in (k := 28) (by decide) (by decide), ?_, rfl⟩
      rw [show q_I (q_wI S 40 0 0 0) 44 0 (Int32.toNatClampNeg 2) = nI (aY a 2 0) from hM.2.2.1, show q_I (q_wI S 40 0 0 0) 65 0 (Int32.toNatClampNeg 28) = nI (fb_sm (aV a).2.2 6) from hV.2.2.2, Int32.mul_comm]
      rfl
  · rw [if_neg h]
    refine RA_i (d := 5) (by decide) hR ?_
    refine q_meth zoX11_told q_fos (Nat.le_of_ble_eq_true rfl) ?_
    intro AT step
    refine step 40 [(3, [true, true, true, true])] 0 _ _ _ ?_
    simp only [q_vcs, q_vcc, q_vl, q_vu, ↓reduceIte, Nat.reduceEqDiff, Bool.false_eq_true, q_isc, q_mk, q_msk, zbX11_told, q_pad, q_ent, q_get, q_put, q_nl, q_w, List.cons_append, List.nil_append, q_aks, q_als, Nat.reduceAdd, Nat.reduceLeDiff, Nat.zero_le, true_and, and_true, Option.some.injEq, Sum.inl.injEq, Sum.inr.injEq, true_or, or_true, and_self, q_sw]
    refine q_u1 (by decide) (c_min l _ x 0 9) ?_
    rw [decide_eq_false h]
    first | refine ⟨fun _ => ?_, fun q => absurd q (by decide)⟩ | refine ⟨fun q => absurd q (by decide), fun _ => ?_⟩
    refine q_u1 (by decide) (c_mbY l S (w := 1) (r := 1) (by decide) (by decide)) ?_
    first | refine ⟨fun _ => ?_, fun q => absurd q (by decide)⟩ | refine ⟨fun q => absurd q (by decide), fun _ => ?_⟩
    first | rfl | exact ⟨rfl, rfl⟩ | trivial
theorem r_on (l : Launch) {S : qSt} {a : AS} {B : Nat} (hR : RF S a) (hO : OKA a B) (x y : Int32) : RA l k_X11_on [.inr (.inr (40, 0)), .inl x, .inl y] S (sp_on a x y) := by
  unfold sp_on
  by_cases h1 : isLn a x
  · rw [spL_3 h1 trivial]
    obtain ⟨k, hk, rfl⟩ := isLn_ex hO h1
    rw [i_cl (by have := hO.1.1; have := hO.1.2.1; omega)]
    have hR0 := hR.th (v := 0)
    have gv := hO.v
    have hM := hR0.1
    have hV := hR0.2.2.2.1.2.1
    have h3 := hO.1.1
    have h6 := hO.1.2.1
    refine RA_s (d := 20) (by decide) hR ?_
    refine q_meth zoX11_on q_fos (Nat.le_of_ble_eq_true rfl) ?_
    intro AT step
    have kc : AT 3 [some (.inr (.inr (40, 0))), some (.inl (nI k)), some (.inl y)] [] (q_wI S 40 0 0 0) := by
      refine step 40 [(3, [true, true, true])] 3 _ _ _ ?_
      simp only [q_vcs, q_vcc, q_vl, q_vu, ↓reduceIte, Nat.reduceEqDiff, Bool.false_eq_true, q_isc, q_mk, q_msk, zbX11_on, q_pad, q_ent, q_get, q_put, q_nl, q_w, List.cons_append, List.nil_append, q_aks, q_als, Nat.reduceAdd, Nat.reduceLeDiff, Nat.zero_le, true_and, and_true, Option.some.injEq, Sum.inl.injEq, Sum.inr.injEq, true_or, or_true, and_self, q_sw]
      exact q_u1 (by decide) (c_monPlace l _ hO.1 hM gv.1 hV.1 (show k < 3 by omega) y) (by first | rfl | exact ⟨rfl, rfl⟩)
    refine step 40 [(3, [true, true, true])] 0 _ _ _ ?_
    simp only [q_vcs, q_vcc, q_vl, q_vu, ↓reduceIte, Nat.reduceEqDiff, Bool.false_eq_true, q_isc, q_mk, q_msk, zbX11_on, q_pad, q_ent, q_get, q_put, q_nl, q_w, List.cons_append, List.nil_append, q_aks, q_als, Nat.reduceAdd, Nat.reduceLeDiff, Nat.zero_le, true_and, and_true, Option.some.injEq, Sum.inl.injEq, Sum.inr.injEq, true_or, or_true, and_self, q_sw]
    refine q_u1 (by decide) (c_misLane l _ (hR.th (v := 0)).1 _) ?_
    rw [show decide (0 ≤ (nI k) ∧ (nI k) ≤ nI (aY a 0 0) - 1) = true from decide_eq_true h1]
    first | refine ⟨fun _ => ?_, fun q => absurd q (by decide)⟩ | refine ⟨fun q => absurd q (by decide), fun _ => ?_⟩
    refine q_u1 (by decide) (c_mbN l S (w := 1) (r := 0) (by decide) (by decide)) ?_
    first | refine ⟨fun _ => ?_, fun q => absurd q (by decide)⟩ | refine ⟨fun q => absurd q (by decide), fun _ => ?_⟩
    exact kc
  · rw [spL_1 h1]
    refine RA_n (d := 20) (by decide) hR ?_
    refine q_meth zoX11_on q_fos (Nat.le_of_ble_eq_true rfl) ?_
    intro AT step
    refine step 40 [(3, [true, true, true])] 0 _ _ _ ?_
    simp only [q_vcs, q_vcc, q_vl, q_vu, ↓reduceIte, Nat.reduceEqDiff, Bool.false_eq_true, q_isc, q_mk, q_msk, zbX11_on, q_pad, q_ent, q_get, q_put, q_nl, q_w, List.cons_append, List.nil_append, q_aks, q_als, Nat.reduceAdd, Nat.reduceLeDiff, Nat.zero_le, true_and, and_true, Option.some.injEq, Sum.inl.injEq, Sum.inr.injEq, true_or, or_true, and_self, q_sw]
    refine q_u1 (by decide) (c_misLane l _ (hR.th (v := 0)).1 _) ?_
    rw [show decide (0 ≤ x ∧ x ≤ nI (aY a 0 0) - 1) = false from decide_eq_false h1]
    first | refine ⟨fun _ => ?_, fun q => absurd q (by decide)⟩ | refine ⟨fun q => absurd q (by decide), fun _ => ?_⟩
    refine q_u1 (by decide) (c_mbY l S (w := 1) (r := 0) (by decide) (by decide)) ?_
    first | refine ⟨fun _ => ?_, fun q => absurd q (by decide)⟩ | refine ⟨fun q => absurd q (by decide), fun _ => ?_⟩
    first | rfl | exact ⟨rfl, rfl⟩ | trivial
theorem r_ahead (l : Launch) {S : qSt} {a : AS} {B : Nat} (hR : RF S a) (hO : OKA a B) (x : Int32) : RA l k_X11_ahead [.inr (.inr (40, 0)), .inl x] S (sp_ahead a x) := by
  unfold sp_ahead
  by_cases h1 : isCr a x
  · rw [spK_3 h1 trivial]
    obtain ⟨k, hk, rfl⟩ := isCr_ex hO h1
    rw [i_cl (by have := hO.1.1; have := hO.1.2.1; omega)]
    have hR0 := hR.th (v := 0)
    have gv := hO.v
    have hM := hR0.1
    have hV := hR0.2.2.2.1.2.1
    have h3 := hO.1.1
    have h6 := hO.1.2.1
    refine RA_s (d := 20) (by decide) hR ?_
    refine q_meth zoX11_ahead q_fos (Nat.le_of_ble_eq_true rfl) ?_
    intro AT step
    have kc : AT 3 [some (.inr (.inr (40, 0))), some (.inl (nI k))] [] (q_wI S 40 0 0 0) := by
      refine step 40 [(3, [true, true])] 3 _ _ _ ?_
      simp only [q_vcs, q_vcc, q_vl, q_vu, ↓reduceIte, Nat.reduceEqDiff, Bool.false_eq_true, q_isc, q_mk, q_msk, zbX11_ahead, q_pad, q_ent, q_get, q_put, q_nl, q_w, List.cons_append, List.nil_append, q_aks, q_als, Nat.reduceAdd, Nat.reduceLeDiff, Nat.zero_le, true_and, and_true, Option.some.injEq, Sum.inl.injEq, Sum.inr.injEq, true_or, or_true, and_self, q_sw]
      exact q_u1 (by decide) (c_maheadOf l _ hO.1 hM gv.1 hV.1 (c := k) (by omega)) (by first | rfl | exact ⟨rfl, rfl⟩)
    refine step 40 [(3, [true, true])] 0 _ _ _ ?_
    simp only [q_vcs, q_vcc, q_vl, q_vu, ↓reduceIte, Nat.reduceEqDiff, Bool.false_eq_true, q_isc, q_mk, q_msk, zbX11_ahead, q_pad, q_ent, q_get, q_put, q_nl, q_w, List.cons_append, List.nil_append, q_aks, q_als, Nat.reduceAdd, Nat.reduceLeDiff, Nat.zero_le, true_and, and_true, Option.some.injEq, Sum.inl.injEq, Sum.inr.injEq, true_or, or_true, and_self, q_sw]
    refine q_u1 (by decide) (c_misCar l _ (hR.th (v := 0)).1 _) ?_
    rw [show decide (0 ≤ (nI k) ∧ (nI k) ≤ nI (aY a 1 0) - 1) = true from decide_eq_true h1]
    first | refine ⟨fun _ => ?_, fun q => absurd q (by decide)⟩ | refine ⟨fun q => absurd q (by decide), fun _ => ?_⟩
    refine q_u1 (by decide) (c_mbN l S (w := 1) (r := 0) (by decide) (by decide)) ?_
    first | refine ⟨fun _ => ?_, fun q => absurd q (by decide)⟩ | refine ⟨fun q => absurd q (by decide), fun _ => ?_⟩
    exact kc
  · rw [spK_1 h1]
    refine RA_n (d := 20) (by decide) hR ?_
    refine q_meth zoX11_ahead q_fos (Nat.le_of_ble_eq_true rfl) ?_
    intro AT step
    refine step 40 [(3, [true, true])] 0 _ _ _ ?_
    simp only [q_vcs, q_vcc, q_vl, q_vu, ↓reduceIte, Nat.reduceEqDiff, Bool.false_eq_true, q_isc, q_mk, q_msk, zbX11_ahead, q_pad, q_ent, q_get, q_put, q_nl, q_w, List.cons_append, List.nil_append, q_aks, q_als, Nat.reduceAdd, Nat.reduceLeDiff, Nat.zero_le, true_and, and_true, Option.some.injEq, Sum.inl.injEq, Sum.inr.injEq, true_or, or_true, and_self, q_sw]
    refine q_u1 (by decide) (c_misCar l _ (hR.th (v := 0)).1 _) ?_
    rw [show decide (0 ≤ x ∧ x ≤ nI (aY a 1 0) - 1) = false from decide_eq_false h1]
    first | refine ⟨fun _ => ?_, fun q => absurd q (by decide)⟩ | refine ⟨fun q => absurd q (by decide), fun _ => ?_⟩
    refine q_u1 (by decide) (c_mbY l S (w := 1) (r := 0) (by decide) (by decide)) ?_
    first | refine ⟨fun _ => ?_, fun q => absurd q (by decide)⟩ | refine ⟨fun q => absurd q (by decide), fun _ => ?_⟩
    first | rfl | exact ⟨rfl, rfl⟩ | trivial
theorem r_car (l : Launch) {S : qSt} {a : AS} {B : Nat} (hR : RF S a) (hO : OKA a B) (x y : Int32) : RA l k_X11_car [.inr (.inr (40, 0)), .inl x, .inl y] S (sp_car a x y) := by
  unfold sp_car
  by_cases h1 : isCr a x
  · by_cases h2 : 0 ≤ y ∧ y ≤ 6
    · rw [spK_3 h1 h2]
      obtain ⟨k, hk, rfl⟩ := isCr_ex hO h1
      obtain ⟨n, hn, rfl⟩ := i_rng (m := 6) (by decide) h2.1 h2.2
      rw [i_cl (by have := hO.1.1; have := hO.1.2.1; omega), i_cl (by omega)]
      have hR0 := hR.th (v := 0)
      have gv := hO.v
      have hM := hR0.1
      have hV := hR0.2.2.2.1.2.1
      have h3 := hO.1.1
      have h6 := hO.1.2.1
      refine RA_s (d := 20) (by decide) hR ?_
      refine q_meth zoX11_car q_fos (Nat.le_of_ble_eq_true rfl) ?_
      intro AT step
      have kc : AT 6 [some (.inr (.inr (40, 0))), some (.inl (nI k)), some (.inl (nI n))] [] (q_wI S 40 0 0 0) := by
        refine step 40 [(6, [true, true, true])] 6 _ _ _ ?_
        simp only [q_vcs, q_vcc, q_vl, q_vu, ↓reduceIte, Nat.reduceEqDiff, Bool.false_eq_true, q_isc, q_mk, q_msk, zbX11_car, q_pad, q_ent, q_get, q_put, q_nl, q_w, List.cons_append, List.nil_append, q_aks, q_als, Nat.reduceAdd, Nat.reduceLeDiff, Nat.zero_le, true_and, and_true, Option.some.injEq, Sum.inl.injEq, Sum.inr.injEq, true_or, or_true, and_self, q_sw]
        have hc := hM.2.2.2.2 k hk
        rw [i_cl (by omega), i_cl (by omega), show (21 : Int32) + nI k = nI (21 + k) by rw [show (21 : Int32) = nI 21 from rfl, nI_add], i_cl (by omega), show (3 : Int32) = nI 3 from rfl, show (4 : Int32) = nI 4 from rfl, show (5 : Int32) = nI 5 from rfl, show (6 : Int32) = nI 6 from rfl, nI_eq (by omega) (by decide), nI_eq (by omega) (by decide), nI_eq (by omega) (by decide), nI_eq (by omega) (by decide)]
        refine ⟨fun e => ?_, fun e3 => ⟨fun e => ?_, fun e4 => ⟨fun e => ?_, fun e5 => ⟨fun e => ?_, fun e6 => ?_⟩⟩⟩⟩
        · subst e; exact q_u1 (by decide) (c_mlaneOf l _ hO.1 hM gv.1 hV.1 (c := k) (by omega)) (by first | rfl | exact ⟨rfl, rfl⟩)
        · subst e
          cases hl9 : lnof (aV a).1 k with
          | none =>
            refine q_u1 (by decide) (c_mfirstPlaceN l _ hO.1 hM gv.1 hV.1 (c := k) (by omega) hl9) ?_
            have : fpl (aY a) (aV a).1 k = none := by unfold fpl; rw [hl9]
            unfold crV
            rw [this]
            first | rfl | exact ⟨rfl, rfl⟩ | trivial
          | some j =>
            refine q_u1 (by decide) (c_mfirstPlace l _ hO.1 hM gv.1 hV.1 hl9) ?_
            unfold crV
            rw [fpl_fpo hO.1 gv.1 gv.2.1 hl9]
            first | rfl | exact ⟨rfl, rfl⟩ | trivial
        · subst e; exact ⟨i_in (by omega) (by decide), hV.2.1 k (by omega)⟩
        · subst e
          refine ⟨i_in (by omega) (by decide), ?_⟩
          rw [hc.2.2.2]
          unfold crV kyt
          rw [if_pos hk]
          rfl
        · have : n = 0 ∨ n = 1 ∨ n = 2 := by omega
          unfold crV lgt hrt trt
          rcases this with e | e | e <;> subst e
          · exact ⟨i_in (by omega) (by decide), i_in (by decide) (by decide), by simp only [if_pos hk]; exact hc.1⟩
          · exact ⟨i_in (by omega) (by decide), i_in (by decide) (by decide), by simp only [if_pos hk]; exact hc.2.1⟩
          · exact ⟨i_in (by omega) (by decide), i_in (by decide) (by decide), by simp only [if_pos hk]; exact hc.2.2.1⟩
      refine step 40 [(6, [true, true, true])] 0 _ _ _ ?_
      simp only [q_vcs, q_vcc, q_vl, q_vu, ↓reduceIte, Nat.reduceEqDiff, Bool.false_eq_true, q_isc, q_mk, q_msk, zbX11_car, q_pad, q_ent, q_get, q_put, q_nl, q_w, List.cons_append, List.nil_append, q_aks, q_als, Nat.reduceAdd, Nat.reduceLeDiff, Nat.zero_le, true_and, and_true, Option.some.injEq, Sum.inl.injEq, Sum.inr.injEq, true_or, or_true, and_self, q_sw]
      refine q_u1 (by decide) (c_misCar l _ (hR.th (v := 0)).1 _) ?_
      rw [show decide (0 ≤ (nI k) ∧ (nI k) ≤ nI (aY a 1 0) - 1) = true from decide_eq_true h1]
      first | refine ⟨fun _ => ?_, fun q => absurd q (by decide)⟩ | refine ⟨fun q => absurd q (by decide), fun _ => ?_⟩
      refine q_u1 (by decide) (c_mbN l S (w := 1) (r := 0) (by decide) (by decide)) ?_
      first | refine ⟨fun _ => ?_, fun q => absurd q (by decide)⟩ | refine ⟨fun q => absurd q (by decide), fun _ => ?_⟩
      refine q_u1 (by decide) (c_min l _ (nI n) 0 6) ?_
      rw [decide_eq_true h2]
      first | refine ⟨fun _ => ?_, fun q => absurd q (by decide)⟩ | refine ⟨fun q => absurd q (by decide), fun _ => ?_⟩
      refine q_u1 (by decide) (c_mbN l S (w := 2) (r := 1) (by decide) (by decide)) ?_
      first | refine ⟨fun _ => ?_, fun q => absurd q (by decide)⟩ | refine ⟨fun q => absurd q (by decide), fun _ => ?_⟩
      exact kc
    · rw [spK_2 h1 h2]
      refine RA_i (d := 20) (by decide) hR ?_
      refine q_meth zoX11_car q_fos (Nat.le_of_ble_eq_true rfl) ?_
      intro AT step
      refine step 40 [(6, [true, true, true])] 0 _ _ _ ?_
      simp only [q_vcs, q_vcc, q_vl, q_vu, ↓reduceIte, Nat.reduceEqDiff, Bool.false_eq_true, q_isc, q_mk, q_msk, zbX11_car, q_pad, q_ent, q_get, q_put, q_nl, q_w, List.cons_append, List.nil_append, q_aks, q_als, Nat.reduceAdd, Nat.reduceLeDiff, Nat.zero_le, true_and, and_true, Option.some.injEq, Sum.inl.injEq, Sum.inr.injEq, true_or, or_true, and_self, q_sw]
      refine q_u1 (by decide) (c_misCar l _ (hR.th (v := 0)).1 _) ?_
      rw [show decide (0 ≤ x ∧ x ≤ nI (aY a 1 0) - 1) = true from decide_eq_true h1]
      first | refine ⟨fun _ => ?_, fun q => absurd q (by decide)⟩ | refine ⟨fun q => absurd q (by decide), fun _ => ?_⟩
      refine q_u1 (by decide) (c_mbN l S (w := 1) (r := 0) (by decide) (by decide)) ?_
      first | refine ⟨fun _ => ?_, fun q => absurd q (by decide)⟩ | refine ⟨fun q => absurd q (by decide), fun _ => ?_⟩
      refine q_u1 (by decide) (c_min l _ y 0 6) ?_
      rw [decide_eq_false (fun z => h2 z)]
      first | refine ⟨fun _ => ?_, fun q => absurd q (by decide)⟩ | refine ⟨fun q => absurd q (by decide), fun _ => ?_⟩
      refine q_u1 (by decide) (c_mbY l S (w := 2) (r := 1) (by decide) (by decide)) ?_
      first | refine ⟨fun _ => ?_, fun q => absurd q (by decide)⟩ | refine ⟨fun q => absurd q (by decide), fun _ => ?_⟩
      first | rfl | exact ⟨rfl, rfl⟩ | trivial
  · rw [spK_1 h1]
    refine RA_n (d := 20) (by decide) hR ?_
    refine q_meth zoX11_car q_fos (Nat.le_of_ble_eq_true rfl) ?_
    intro AT step
    refine step 40 [(6, [true, true, true])] 0 _ _ _ ?_
    simp only [q_vcs, q_vcc, q_vl, q_vu, ↓reduceIte, Nat.reduceEqDiff, Bool.false_eq_true, q_isc, q_mk, q_msk, zbX11_car, q_pad, q_ent, q_get, q_put, q_nl, q_w, List.cons_append, List.nil_append, q_aks, q_als, Nat.reduceAdd, Nat.reduceLeDiff, Nat.zero_le, true_and, and_true, Option.some.injEq, Sum.inl.injEq, Sum.inr.injEq, true_or, or_true, and_self, q_sw]
    refine q_u1 (by decide) (c_misCar l _ (hR.th (v := 0)).1 _) ?_
    rw [show decide (0 ≤ x ∧ x ≤ nI (aY a 1 0) - 1) = false from decide_eq_false h1]
    first | refine ⟨fun _ => ?_, fun q => absurd q (by decide)⟩ | refine ⟨fun q => absurd q (by decide), fun _ => ?_⟩
    refine q_u1 (by decide) (c_mbY l S (w := 1) (r := 0) (by decide) (by decide)) ?_
    first | refine ⟨fun _ => ?_, fun q => absurd q (by decide)⟩ | refine ⟨fun q => absurd q (by decide), fun _ => ?_⟩
    first | rfl | exact ⟨rfl, rfl⟩ | trivial
theorem r_seconds (l : Launch) {S : qSt} {a : AS} {B : Nat} (hR : RF S a) (hO : OKA a B) (x y : Int32) : RA l k_X11_seconds [.inr (.inr (40, 0)), .inl x, .inl y] S (sp_secs a x y) := by
  unfold sp_secs
  by_cases h1 : isCr a x
  · by_cases h2 : 0 ≤ y ∧ y ≤ 1
    · rw [spK_3 h1 h2]
      obtain ⟨k, hk, rfl⟩ := isCr_ex hO h1
      rw [i_cl (by have := hO.1.1; have := hO.1.2.1; omega)]
      have hR0 := hR.th (v := 0)
      have gv := hO.v
      have hM := hR0.1
      have hV := hR0.2.2.2.1.2.1
      have h3 := hO.1.1
      have h6 := hO.1.2.1
      refine RA_r (d := 20) (by decide) ?_
      refine q_meth zoX11_seconds q_fos (Nat.le_of_ble_eq_true rfl) ?_
      intro AT step
      have kc : AT 6 [some (.inr (.inr (40, 0))), some (.inl (nI k)), some (.inl y)] [] (q_wI S 40 0 0 0) := by
        refine step 40 [(6, [true, true, true])] 6 _ _ _ ?_
        simp only [q_vcs, q_vcc, q_vl, q_vu, ↓reduceIte, Nat.reduceEqDiff, Bool.false_eq_true, q_isc, q_mk, q_msk, zbX11_seconds, q_pad, q_ent, q_get, q_put, q_nl, q_w, List.cons_append, List.nil_append, q_aks, q_als, Nat.reduceAdd, Nat.reduceLeDiff, Nat.zero_le, true_and, and_true, Option.some.injEq, Sum.inl.injEq, Sum.inr.injEq, true_or, or_true, and_self, q_sw]
        refine ⟨_, _, (by decide : 3 < 20), c_msecondsOf l _ y hO.1 hM gv.1 hV hk hO.2.1 hR0.2.1, fun v S1 h => ?_⟩
        obtain ⟨g1, g2⟩ := h
        cases g1
        refine ⟨rfl, ?_, RF_kp hR0 (g2.mn (fun f i z => by omega)), fth.tr (g2.mn (fun f i z => by show 40 ≤ f ∧ f < 80; omega))⟩
        rw [(g2 40 0 (by omega)).1, q_I_wI, if_pos ⟨rfl, rfl, rfl⟩]
      refine step 40 [(6, [true, true, true])] 0 _ _ _ ?_
      simp only [q_vcs, q_vcc, q_vl, q_vu, ↓reduceIte, Nat.reduceEqDiff, Bool.false_eq_true, q_isc, q_mk, q_msk, zbX11_seconds, q_pad, q_ent, q_get, q_put, q_nl, q_w, List.cons_append, List.nil_append, q_aks, q_als, Nat.reduceAdd, Nat.reduceLeDiff, Nat.zero_le, true_and, and_true, Option.some.injEq, Sum.inl.injEq, Sum.inr.injEq, true_or, or_true, and_self, q_sw]
      refine q_u1 (by decide) (c_misCar l _ (hR.th (v := 0)).1 _) ?_
      rw [show decide (0 ≤ (nI k) ∧ (nI k) ≤ nI (aY a 1 0) - 1) = true from decide_eq_true h1]
      first | refine ⟨fun _ => ?_, fun q => absurd q (by decide)⟩ | refine ⟨fun q => absurd q (by decide), fun _ => ?_⟩
      refine q_u1 (by decide) (c_mbN l S (w := 1) (r := 0) (by decide) (by decide)) ?_
      first | refine ⟨fun _ => ?_, fun q => absurd q (by decide)⟩ | refine ⟨fun q => absurd q (by decide), fun _ => ?_⟩
      refine q_u1 (by decide) (c_min l _ y 0 1) ?_
      rw [decide_eq_true h2]
      first | refine ⟨fun _ => ?_, fun q => absurd q (by decide)⟩ | refine ⟨fun q => absurd q (by decide), fun _ => ?_⟩
      refine q_u1 (by decide) (c_mbN l S (w := 2) (r := 1) (by decide) (by decide)) ?_
      first | refine ⟨fun _ => ?_, fun q => absurd q (by decide)⟩ | refine ⟨fun q => absurd q (by decide), fun _ => ?_⟩
      exact kc
    · rw [spK_2 h1 h2]
      refine RA_i (d := 20) (by decide) hR ?_
      refine q_meth zoX11_seconds q_fos (Nat.le_of_ble_eq_true rfl) ?_
      intro AT step
      refine step 40 [(6, [true, true, true])] 0 _ _ _ ?_
      simp only [q_vcs, q_vcc, q_vl, q_vu, ↓reduceIte, Nat.reduceEqDiff, Bool.false_eq_true, q_isc, q_mk, q_msk, zbX11_seconds, q_pad, q_ent, q_get, q_put, q_nl, q_w, List.cons_append, List.nil_append, q_aks, q_als, Nat.reduceAdd, Nat.reduceLeDiff, Nat.zero_le, true_and, and_true, Option.some.injEq, Sum.inl.injEq, Sum.inr.injEq, true_or, or_true, and_self, q_sw]
      refine q_u1 (by decide) (c_misCar l _ (hR.th (v := 0)).1 _) ?_
      rw [show decide (0 ≤ x ∧ x ≤ nI (aY a 1 0) - 1) = true from decide_eq_true h1]
      first | refine ⟨fun _ => ?_, fun q => absurd q (by decide)⟩ | refine ⟨fun q => absurd q (by decide), fun _ => ?_⟩
      refine q_u1 (by decide) (c_mbN l S (w := 1) (r := 0) (by decide) (by decide)) ?_
      first | refine ⟨fun _ => ?_, fun q => absurd q (by decide)⟩ | refine ⟨fun q => absurd q (by decide), fun _ => ?_⟩
      refine q_u1 (by decide) (c_min l _ y 0 1) ?_
      rw [decide_eq_false (fun z => h2 z)]
      first | refine ⟨fun _ => ?_, fun q => absurd q (by decide)⟩ | refine ⟨fun q => absurd q (by decide), fun _ => ?_⟩
      refine q_u1 (by decide) (c_mbY l S (w := 2) (r := 1) (by decide) (by decide)) ?_
      first | refine ⟨fun _ => ?_, fun q => absurd q (by decide)⟩ | refine ⟨fun q => absurd q (by decide), fun _ => ?_⟩
      first | rfl | exact ⟨rfl, rfl⟩ | trivial
  · rw [spK_1 h1]
    refine RA_n (d := 20) (by decide) hR ?_
    refine q_meth zoX11_seconds q_fos (Nat.le_of_ble_eq_true rfl) ?_
    intro AT step
    refine step 40 [(6, [true, true, true])] 0 _ _ _ ?_
    simp only [q_vcs, q_vcc, q_vl, q_vu, ↓reduceIte, Nat.reduceEqDiff, Bool.false_eq_true, q_isc, q_mk, q_msk, zbX11_seconds, q_pad, q_ent, q_get, q_put, q_nl, q_w, List.cons_append, List.nil_append, q_aks, q_als, Nat.reduceAdd, Nat.reduceLeDiff, Nat.zero_le, true_and, and_true, Option.some.injEq, Sum.inl.injEq, Sum.inr.injEq, true_or, or_true, and_self, q_sw]
    refine q_u1 (by decide) (c_misCar l _ (hR.th (v := 0)).1 _) ?_
    rw [show decide (0 ≤ x ∧ x ≤ nI (aY a 1 0) - 1) = false from decide_eq_false h1]
    first | refine ⟨fun _ => ?_, fun q => absurd q (by decide)⟩ | refine ⟨fun q => absurd q (by decide), fun _ => ?_⟩
    refine q_u1 (by decide) (c_mbY l S (w := 1) (r := 0) (by decide) (by decide)) ?_
    first | refine ⟨fun _ => ?_, fun q => absurd q (by decide)⟩ | refine ⟨fun q => absurd q (by decide), fun _ => ?_⟩
    first | rfl | exact ⟨rfl, rfl⟩ | trivial
