/-! Yard.read -/
theorem rs_y {S S' : qSt} {T : Nat → Nat} {n y : Nat} {s : PS} (h : RS S T n s) (hf : fr (fun f i => i = y ∧ 3 ≤ f ∧ f ≤ 11) S S') : RS S' T n s := h.fr hf (fun q => by omega) (fun q => by omega)
theorem i_1shl {k : Nat} (h : k < 6) : (1 : Int32) <<< (nI k &&& 31) = nI (2 ^ k) := i_1sh k (by omega)
theorem c_yreadCar (l : Launch) (S : qSt) {T : Nat → Nat} {n y : Nat} {s : PS} {Y : YD} (hY : y_ok Y) (hR : RS S T n s) (hYR : YR S y Y) (h3 : Y 1 0 < 6) : q_Met q_mt l 3 k_X9_readCar 0 [.inr (.inr (3, y)), .inr (.inr (1, 0))] S (fun _ S' => RS S' T n (pnm T n 0 10 (pnm T n 0 100 (pnm T n 1 3 s))) ∧ (∃ Y', y_ok Y' ∧ YR S' y Y' ∧ ((pnm T n 0 10 (pnm T n 0 100 (pnm T n 1 3 s))).isLeft = true → Y' = ycr Y (pvl T n s) (pvl T n (pnm T n 1 3 s)) (pvl T n (pnm T n 0 100 (pnm T n 1 3 s))))) ∧ fr (Fy y) S S') := by
  refine q_meth zoX9_readCar q_fos (Nat.le_of_ble_eq_true rfl) ?_
  intro AT step
  refine step 20 [] 0 _ _ _ ?_
  simp only [q_vcs, q_vcc, q_vl, q_vu, ↓reduceIte, Nat.reduceEqDiff, Bool.false_eq_true, q_isc, q_mk, q_msk, zbX9_readCar, q_pad, q_ent, q_get, q_put, q_nl, q_w, List.cons_append, List.nil_append, q_aks, q_als, Nat.reduceAdd, Nat.reduceLeDiff, Nat.zero_le, true_and, and_true, Option.some.injEq, Sum.inl.injEq, Sum.inr.injEq, true_or, or_true, and_self, q_sw]
  refine ⟨_, _, (by decide : 2 < 3), c_rnum l S (lo := 1) (h := 3) hR rfl (by decide) (by decide) (by decide), fun v S1 h1 => ?_⟩
  obtain ⟨w1, hv, a1, a2, a3, a4⟩ := h1
  cases hv
  refine ⟨_, _, (by decide : 2 < 3), c_rnum l S1 (lo := 0) (h := 100) a4.1 rfl (by decide) (by decide) (by decide), fun v S2 h1 => ?_⟩
  obtain ⟨w2, hv, b1, b2, b3, b4⟩ := h1
  cases hv
  refine ⟨_, _, (by decide : 2 < 3), c_rnum l S2 (lo := 0) (h := 10) b4.1 rfl (by decide) (by decide) (by decide), fun v S3 h1 => ?_⟩
  obtain ⟨w3, hv, k1, k2, k3, k4⟩ := h1
  cases hv
  refine q_u1 (by decide) (c_sound l S3 k4.1) ?_
  have hf3 : fr Fr1 S S3 := (a4.2.2.tr b4.2.2).tr k4.2.2
  have hY1 := yr_r1 hYR hf3
  rw [bI_0]
  cases hp : (pnm T n 0 10 (pnm T n 0 100 (pnm T n 1 3 s))).isLeft with
  | false => exact ⟨fun _ => ⟨k4.1, ⟨Y, hY, hY1, fun h => by cases h⟩, Fr1_y hf3⟩, fun h => absurd rfl h⟩
  | true =>
    have k3 := (k3 hp).1
    have hp2 : (pnm T n 0 100 (pnm T n 1 3 s)).isLeft = true := by
      cases h : pnm T n 0 100 (pnm T n 1 3 s) with
      | inl a => rfl
      | inr q => rw [h] at hp; cases hp
    have hp1 : (pnm T n 1 3 s).isLeft = true := by
      cases h : pnm T n 1 3 s with
      | inl a => rfl
      | inr q => rw [h] at hp2; cases hp2
    have b3 := (b3 hp2).1
    have a3 := (a3 hp1).1
    have e0 := hY1.2.1
    have e1 : ∀ f i j v, f ≠ 3 → q_I S3 3 y 1 = nI (Y 1 0) → q_I (q_wI S3 f i j v) 3 y 1 = nI (Y 1 0) := fun f i j v hf h => by rw [q_I_wI, if_neg (fun q => hf q.1.symm), h]
    have i4 : q_I (q_wI S3 5 y (Y 1 0) (nI w1)) 3 y 1 = nI (Y 1 0) := by rw [q_I_wI, if_neg (by omega), e0]
    have i5 : q_I (q_wI (q_wI S3 5 y (Y 1 0) (nI w1)) 6 y (Y 1 0) (nI w2)) 3 y 1 = nI (Y 1 0) := by rw [q_I_wI, if_neg (by omega), i4]
    have i6 : q_I (q_wI (q_wI (q_wI S3 5 y (Y 1 0) (nI w1)) 6 y (Y 1 0) (nI w2)) 7 y (Y 1 0) (nI w3)) 3 y 1 = nI (Y 1 0) := by rw [q_I_wI, if_neg (by omega), i5]
    have i7 : q_I (q_wI (q_wI (q_wI (q_wI S3 5 y (Y 1 0) (nI w1)) 6 y (Y 1 0) (nI w2)) 7 y (Y 1 0) (nI w3)) 8 y (Y 1 0) (nI (2 ^ Y 1 0))) 3 y 1 = nI (Y 1 0) := by rw [q_I_wI, if_neg (by omega), i6]
    have hin : vp_in (nI (Y 1 0)) 6 := i_in h3 (by decide)
    have hcl : (nI (Y 1 0)).toNatClampNeg = Y 1 0 := i_cl (by omega)
    rw [e0, show (6 : Int32) = nI 6 from rfl, nI_leI (by omega) (by omega)]
    simp only [hcl, i4, i5, i6, i7, i_1shl h3, nI_1]
    refine ⟨fun h => (by cases h), fun _ => ⟨fun h => absurd h (by omega), fun _ => ⟨hin, hin, hin, hin, ?_⟩⟩⟩
    have ff : ∀ g, 3 ≤ g ∧ g ≤ 11 → (fun f i => i = y ∧ 3 ≤ f ∧ f ≤ 11) g y := fun g h => ⟨rfl, h⟩
    have hf4 : fr (fun f i => i = y ∧ 3 ≤ f ∧ f ≤ 11) S3 (q_wI (q_wI (q_wI (q_wI (q_wI S3 5 y (Y 1 0) (nI w1)) 6 y (Y 1 0) (nI w2)) 7 y (Y 1 0) (nI w3)) 8 y (Y 1 0) (nI (2 ^ Y 1 0))) 3 y 1 (nI (Y 1 0 + 1))) := fr.wI (fr.wI (fr.wI (fr.wI (fr.wI fr.rf (ff 5 (by decide))) (ff 6 (by decide))) (ff 7 (by decide))) (ff 8 (by decide))) (ff 3 (by decide))
    refine ⟨rs_y k4.1 hf4, ⟨ycr Y w1 w2 w3, ycr_ok hY h3 (by omega) (by omega) (by omega), ?_, fun _ => by rw [a3, b3, k3]⟩, (Fr1_y hf3).tr (hf4.mn fun f i h => Or.inr h)⟩
    obtain ⟨g1, g2, g3, g4, g5⟩ := hY1
    have r0 : ycr Y w1 w2 w3 0 0 = Y 0 0 := by simp [ycr]
    have r1 : ycr Y w1 w2 w3 1 0 = Y 1 0 + 1 := by simp [ycr]
    have r2 : ycr Y w1 w2 w3 2 0 = Y 2 0 := by simp [ycr]
    refine ⟨?_, ?_, ?_, fun k hk => ?_, fun c hc => ?_⟩
    · rw [r0, ← g1]; simp [q_I_wI]
    · rw [r1]; simp [q_I_wI]
    · rw [r2, ← g3]; simp [q_I_wI]
    · rw [r0] at hk
      rw [show ycr Y w1 w2 w3 3 k = Y 3 k by simp [ycr], ← g4 k hk]
      simp [q_I_wI]
    · rw [r1] at hc
      by_cases e : c = Y 1 0
      · subst e
        simp [q_I_wI, ycr]
      · have := g5 c (by omega)
        simp [q_I_wI, ycr, e]
        exact this
theorem c_yreadKey (l : Launch) (S : qSt) {T : Nat → Nat} {n y : Nat} {s : PS} {Y : YD} (hY : y_ok Y) (hR : RS S T n s) (hYR : YR S y Y) : q_Met q_mt l 3 k_X9_readKey 0 [.inr (.inr (3, y)), .inr (.inr (1, 0))] S (fun _ S' => RS S' T n (pnm T n 0 (Y 1 0) (pnm T n 0 (Y 1 0) s)) ∧ (∃ Y', y_ok Y' ∧ YR S' y Y' ∧ ((pnm T n 0 (Y 1 0) (pnm T n 0 (Y 1 0) s)).isLeft = true → Y' = yky Y (pvl T n s) (pvl T n (pnm T n 0 (Y 1 0) s)))) ∧ fr (Fy y) S S') := by
  refine q_meth zoX9_readKey q_fos (Nat.le_of_ble_eq_true rfl) ?_
  intro AT step
  have h6 := hY.2.1
  refine step 20 [] 0 _ _ _ ?_
  simp only [q_vcs, q_vcc, q_vl, q_vu, ↓reduceIte, Nat.reduceEqDiff, Bool.false_eq_true, q_isc, q_mk, q_msk, zbX9_readKey, q_pad, q_ent, q_get, q_put, q_nl, q_w, List.cons_append, List.nil_append, q_aks, q_als, Nat.reduceAdd, Nat.reduceLeDiff, Nat.zero_le, true_and, and_true, Option.some.injEq, Sum.inl.injEq, Sum.inr.injEq, true_or, or_true, and_self, q_sw]
  rw [hYR.2.1]
  refine ⟨_, _, (by decide : 2 < 3), c_rnum l S (lo := 0) (h := Y 1 0) hR rfl rfl (by decide) (by omega), fun v S1 h1 => ?_⟩
  obtain ⟨w1, hv, a1, a2, a3, a4⟩ := h1
  cases hv
  rw [(yr_r1 hYR a4.2.2).2.1]
  refine ⟨_, _, (by decide : 2 < 3), c_rnum l S1 (lo := 0) (h := Y 1 0) a4.1 rfl rfl (by decide) (by omega), fun v S2 h1 => ?_⟩
  obtain ⟨w2, hv, b1, b2, b3, b4⟩ := h1
  cases hv
  refine q_u1 (by decide) (c_sound l S2 b4.1) ?_
  have hf3 : fr Fr1 S S2 := a4.2.2.tr b4.2.2
  have hY1 := yr_r1 hYR hf3
  rw [bI_0]
  cases hp : (pnm T n 0 (Y 1 0) (pnm T n 0 (Y 1 0) s)).isLeft with
  | false => exact ⟨fun _ => ⟨b4.1, ⟨Y, hY, hY1, fun h => by cases h⟩, Fr1_y hf3⟩, fun h => absurd rfl h⟩
  | true =>
    have hp1 : (pnm T n 0 (Y 1 0) s).isLeft = true := by
      cases h : pnm T n 0 (Y 1 0) s with
      | inl a => rfl
      | inr q => rw [h] at hp; cases hp
    have b3 := b3 hp
    have a3 := a3 hp1
    have g5 := (hY1.2.2.2.2 w1 a3.2).2.2.2
    rw [hY1.2.1, nI_leI (by omega) (by omega), i_cl (by omega), i_1shl (by omega), g5, fa_or]
    refine ⟨fun h => (by cases h), fun _ => ⟨fun h => absurd h (by omega), fun _ => ⟨i_in (by omega) (by decide), i_in (by omega) (by decide), ?_⟩⟩⟩
    have hf4 : fr (fun f i => i = y ∧ 3 ≤ f ∧ f ≤ 11) S2 (q_wI S2 8 y w1 (nI (Y 7 w1 ||| 2 ^ w2))) := fr.wI fr.rf ⟨rfl, by decide, by decide⟩
    refine ⟨rs_y b4.1 hf4, ⟨yky Y w1 w2, yky_ok hY a3.2 (by omega), ?_, fun _ => by rw [a3.1, b3.1]⟩, (Fr1_y hf3).tr (hf4.mn fun f i h => Or.inr h)⟩
    obtain ⟨g1, g2, g3, g4, g5⟩ := hY1
    refine ⟨g1, g2, g3, fun k hk => g4 k hk, fun c hc => ?_⟩
    have := g5 c hc
    refine ⟨this.1, this.2.1, this.2.2.1, ?_⟩
    rw [q_I_wI]
    simp [yky]
    split
    · rfl
    · exact this.2.2.2
theorem isw0 {T : Nat → Nat} {w a i : Nat} : isw T w a none i = false ↔ ¬ seg T w a = sw i := by unfold isw; simp
theorem c_kindOf (l : Launch) (S : qSt) {T : Nat → Nat} {n a w : Nat} (hR : RD S T n a none) (hw : q_I S 1 0 4 = nI w) (hwa : w ≤ a) : q_Met q_mt l 5 k_X9_kindOf 1 [.inr (.inr (1, 0))] S (fun r S' => r = some (.inl (nI (ykd T w a))) ∧ S' = S) := by
  refine q_meth zoX9_kindOf q_fos (Nat.le_of_ble_eq_true rfl) ?_
  intro AT step
  refine step 20 [] 0 _ _ _ ?_
  simp only [q_vcs, q_vcc, q_vl, q_vu, ↓reduceIte, Nat.reduceEqDiff, Bool.false_eq_true, q_isc, q_mk, q_msk, zbX9_kindOf, q_pad, q_ent, q_get, q_put, q_nl, q_w, List.cons_append, List.nil_append, q_aks, q_als, Nat.reduceAdd, Nat.reduceLeDiff, Nat.zero_le, true_and, and_true, Option.some.injEq, Sum.inl.injEq, Sum.inr.injEq, true_or, or_true, and_self, q_sw]
  unfold ykd
  refine q_u1 (by decide) (c_isWord l S hR hw hwa (i := 3) (by decide)) ?_
  rw [bI_0, isw0]
  refine ⟨fun h3 => ?_, fun h3 => ?_⟩
  rotate_left
  · rw [if_pos (Classical.not_not.mp h3)]; exact (by first | trivial | rfl | exact ⟨rfl, rfl⟩)
  rw [if_neg h3]
  refine q_u1 (by decide) (c_isWord l S hR hw hwa (i := 4) (by decide)) ?_
  rw [bI_0, isw0]
  refine ⟨fun h4 => ?_, fun h4 => ?_⟩
  rotate_left
  · rw [if_pos (Classical.not_not.mp h4)]; exact (by first | trivial | rfl | exact ⟨rfl, rfl⟩)
  rw [if_neg h4]
  refine q_u1 (by decide) (c_isWord l S hR hw hwa (i := 5) (by decide)) ?_
  rw [bI_0, isw0]
  refine ⟨fun h5 => ?_, fun h5 => ?_⟩
  rotate_left
  · rw [if_pos (Classical.not_not.mp h5)]; exact (by first | trivial | rfl | exact ⟨rfl, rfl⟩)
  rw [if_neg h5]
  refine q_u1 (by decide) (c_isWord l S hR hw hwa (i := 6) (by decide)) ?_
  rw [bI_0, isw0]
  refine ⟨fun h6 => ?_, fun h6 => ?_⟩
  · rw [if_neg h6]; exact (by first | trivial | rfl | exact ⟨rfl, rfl⟩)
  · rw [if_pos (Classical.not_not.mp h6)]; exact (by first | trivial | rfl | exact ⟨rfl, rfl⟩)
theorem ykd_le (T : Nat → Nat) (b c : Nat) : ykd T b c ≤ 4 := by
  unfold ykd
  repeat' split
  all_goals omega
theorem c_ybody (l : Launch) (S : qSt) {T : Nat → Nat} {n y k a : Nat} {Y : YD} (hY : y_ok Y) (hR : RD S T n a none) (hYR : YR S y Y) (hk : k < 2 ^ 20) : q_Met q_mt l 6 k_X9_readClause 0 [.inr (.inr (3, y)), .inr (.inr (1, 0)), .inl (nI k)] S (fun _ S' => RS S' T n (ycl T n k a Y).1 ∧ (∃ Y', y_ok Y' ∧ YR S' y Y' ∧ ((ycl T n k a Y).1.isLeft = true → Y' = (ycl T n k a Y).2)) ∧ fr (Fy y) S S') := by
  refine q_meth zoX9_readClause q_fos (Nat.le_of_ble_eq_true rfl) ?_
  intro AT step
  have hb : tx T n isb a ≤ n := tx_le hR.1.2.1
  have hn6 := hR.1.1
  have hbc : tx T n isb a ≤ tx T n isl (tx T n isb a) := tx_ge _ _ _ _
  have hkd := ykd_le T (tx T n isb a) (tx T n isl (tx T n isb a))
  have hs := hY.1
  have hc6 := hY.2.1
  have fin10 : ∀ (S3 : qSt) (x : Int32) (s : PS) (Y1 : YD), y_ok Y1 → RS S3 T n s → YR S3 y Y1 → fr (Fy y) S S3 → psg T n 59 s = (ycl T n k a Y).1 → (s.isLeft = true → Y1 = (ycl T n k a Y).2) → AT 10 [some (.inr (.inr (3, y))), some (.inr (.inr (1, 0))), some (.inl (nI k)), some (.inl x)] [] S3 := by
    intro S3 x s Y1 h1 h2 h3 h4 h5 h6
    refine step 20 [] 10 _ _ _ ?_
    simp only [q_vcs, q_vcc, q_vl, q_vu, ↓reduceIte, Nat.reduceEqDiff, Bool.false_eq_true, q_isc, q_mk, q_msk, zbX9_readClause, q_pad, q_ent, q_get, q_put, q_nl, q_w, List.cons_append, List.nil_append, q_aks, q_als, Nat.reduceAdd, Nat.reduceLeDiff, Nat.zero_le, true_and, and_true, Option.some.injEq, Sum.inl.injEq, Sum.inr.injEq, true_or, or_true, and_self, q_sw]
    refine ⟨_, _, (by decide : 1 < 6), c_rsign l S3 (c := 59) h2 (by decide), fun S4 h7 => ?_⟩
    rw [← h5]
    refine ⟨h7.1, ⟨Y1, h1, yr_r1 h3 h7.2.2, fun h => h6 ?_⟩, h4.tr (Fr1_y h7.2.2)⟩
    cases s with
    | inl b => rfl
    | inr q => cases h
  have body : ∀ (S2 : qSt), ¬ ykd T (tx T n isb a) (tx T n isl (tx T n isb a)) = 0 → ytm k (ykd T (tx T n isb a) (tx T n isl (tx T n isb a))) Y = false → RD S2 T n (tx T n isl (tx T n isb a)) none → YR S2 y Y → fr (Fy y) S S2 → AT 4 [some (.inr (.inr (3, y))), some (.inr (.inr (1, 0))), some (.inl (nI k)), some (.inl (nI (ykd T (tx T n isb a) (tx T n isl (tx T n isb a)))))] [] S2 := by
    intro S2 h0 h1 hR2 hY2 hf2
    have hcl : ycl T n k a Y = (psg T n 59 (ybd T n (tx T n isl (tx T n isb a)) Y (ykd T (tx T n isb a) (tx T n isl (tx T n isb a)))).1, (ybd T n (tx T n isl (tx T n isb a)) Y (ykd T (tx T n isb a) (tx T n isl (tx T n isb a)))).2) := by
      unfold ycl
      rw [if_neg h0, if_neg (by rw [h1]; decide)]
    rw [hcl] at fin10
    clear hcl
    have hlt : (ykd T (tx T n isb a) (tx T n isl (tx T n isb a)) = 1 → Y 0 0 < 3) ∧ (ykd T (tx T n isb a) (tx T n isl (tx T n isb a)) = 2 → Y 1 0 < 6) := by
      unfold ytm at h1
      simp at h1
      omega
    generalize ykd T (tx T n isb a) (tx T n isl (tx T n isb a)) = kd at *
    generalize tx T n isl (tx T n isb a) = c at *
    refine step 20 [(10, [true, true, true, true])] 4 _ _ _ ?_
    simp only [q_vcs, q_vcc, q_vl, q_vu, ↓reduceIte, Nat.reduceEqDiff, Bool.false_eq_true, q_isc, q_mk, q_msk, zbX9_readClause, q_pad, q_ent, q_get, q_put, q_nl, q_w, List.cons_append, List.nil_append, q_aks, q_als, Nat.reduceAdd, Nat.reduceLeDiff, Nat.zero_le, true_and, and_true, Option.some.injEq, Sum.inl.injEq, Sum.inr.injEq, true_or, or_true, and_self, q_sw]
    refine q_u1 (by decide) (c_sound l S2 (s := .inl c) hR2) ?_
    refine ⟨fun _ => ?_, fun h => absurd h (show ¬ (1 : Int32) = 0 by decide)⟩
    rw [show (1 : Int32) = nI 1 from rfl, show (2 : Int32) = nI 2 from rfl, show (3 : Int32) = nI 3 from rfl, nI_eq (by omega) (by decide), nI_eq (by omega) (by decide), nI_eq (by omega) (by decide)]
    refine ⟨fun e => ?_, fun e1 => ⟨fun e => ?_, fun e2 => ⟨fun e => ?_, fun e3 => ?_⟩⟩⟩
    · subst e
      refine ⟨_, _, (by decide : 3 < 6), c_yreadLane l S2 (s := .inl c) hY hR2 hY2 (hlt.1 rfl), fun S3 h => ?_⟩
      obtain ⟨k1, ⟨Y1, k2, k3, k4⟩, k5⟩ := h
      exact fin10 S3 _ _ Y1 k2 k1 k3 (hf2.tr k5) rfl k4
    · subst e
      refine ⟨_, _, (by decide : 3 < 6), c_yreadCar l S2 (s := .inl c) hY hR2 hY2 (hlt.2 rfl), fun S3 h => ?_⟩
      obtain ⟨k1, ⟨Y1, k2, k3, k4⟩, k5⟩ := h
      exact fin10 S3 _ _ Y1 k2 k1 k3 (hf2.tr k5) rfl k4
    · subst e
      refine ⟨_, _, (by decide : 3 < 6), c_yreadKey l S2 (s := .inl c) hY hR2 hY2, fun S3 h => ?_⟩
      obtain ⟨k1, ⟨Y1, k2, k3, k4⟩, k5⟩ := h
      exact fin10 S3 _ _ Y1 k2 k1 k3 (hf2.tr k5) rfl k4
    · have e4 : kd = 4 := by omega
      subst e4
      refine ⟨_, _, (by decide : 2 < 6), c_rnum l S2 (lo := 0) (h := 41) (s := .inl c) hR2 rfl (by decide) (by decide) (by decide), fun v S3 h => ?_⟩
      obtain ⟨w, hv, k1, k2, k3, k4⟩ := h
      cases hv
      have hf4 : fr (fun f i => i = y ∧ 3 ≤ f ∧ f ≤ 11) S3 (q_wI S3 3 y 2 (nI w)) := fr.wI fr.rf ⟨rfl, by decide, by decide⟩
      obtain ⟨g1, g2, g3, g4, g5⟩ := yr_r1 hY2 k4.2.2
      refine fin10 _ _ _ (ycs Y w) (ycs_ok hY (by omega)) (rs_y k4.1 hf4) ⟨?_, ?_, ?_, ?_, ?_⟩ ((hf2.tr (Fr1_y k4.2.2)).tr (hf4.mn fun f i h => Or.inr h)) rfl (fun h => by rw [(k3 h).1]; rfl)
      · simp [q_I_wI, ycs]; exact g1
      · simp [q_I_wI, ycs]; exact g2
      · simp [q_I_wI, ycs]
      · intro j hj
        simp [q_I_wI, ycs] at hj ⊢
        exact g4 j hj
      · intro j hj
        simp [q_I_wI, ycs] at hj ⊢
        exact g5 j hj
  have stop : ∀ (S2 : qSt) (q : Nat × Nat) (x : Int32), (ycl T n k a Y).1 = .inr q → RS S2 T n (.inr q) → YR S2 y Y → fr (Fy y) S S2 → AT 4 [some (.inr (.inr (3, y))), some (.inr (.inr (1, 0))), some (.inl (nI k)), some (.inl x)] [] S2 := by
    intro S2 q x hq hR2 hY2 hf2
    refine step 20 [] 4 _ _ _ ?_
    simp only [q_vcs, q_vcc, q_vl, q_vu, ↓reduceIte, Nat.reduceEqDiff, Bool.false_eq_true, q_isc, q_mk, q_msk, zbX9_readClause, q_pad, q_ent, q_get, q_put, q_nl, q_w, List.cons_append, List.nil_append, q_aks, q_als, Nat.reduceAdd, Nat.reduceLeDiff, Nat.zero_le, true_and, and_true, Option.some.injEq, Sum.inl.injEq, Sum.inr.injEq, true_or, or_true, and_self, q_sw]
    refine q_u1 (by decide) (c_sound l S2 hR2) ?_
    refine ⟨fun h => absurd rfl h, fun _ => ?_⟩
    rw [hq]
    exact ⟨hR2, ⟨Y, hY, hY2, fun h => by cases h⟩, hf2⟩
  have at3 : ∀ (S2 : qSt) (s : PS) (x : Int32), RS S2 T n s → q_I S2 1 0 4 = nI (tx T n isb a) → YR S2 y Y → fr (Fy y) S S2 → (ycl T n k a Y).1 = pfl 3 (tx T n isb a) s → AT 3 [some (.inr (.inr (3, y))), some (.inr (.inr (1, 0))), some (.inl (nI k)), some (.inl x)] [] S2 := by
    intro S2 s x hR2 hw hY2 hf2 hs2
    refine step 20 [(4, [true, true, true, true])] 3 _ _ _ ?_
    simp only [q_vcs, q_vcc, q_vl, q_vu, ↓reduceIte, Nat.reduceEqDiff, Bool.false_eq_true, q_isc, q_mk, q_msk, zbX9_readClause, q_pad, q_ent, q_get, q_put, q_nl, q_w, List.cons_append, List.nil_append, q_aks, q_als, Nat.reduceAdd, Nat.reduceLeDiff, Nat.zero_le, true_and, and_true, Option.some.injEq, Sum.inl.injEq, Sum.inr.injEq, true_or, or_true, and_self, q_sw]
    rw [hw]
    refine ⟨_, _, (by decide : 0 < 6), c_rfail l S2 (k := 3) hR2 (by decide) (by omega), fun S3 h => ?_⟩
    cases s with
    | inl b => exact stop S3 _ x hs2 h.1 (yr_r1 hY2 h.2.2) (hf2.tr (Fr1_y h.2.2))
    | inr q => exact stop S3 _ x hs2 h.1 (yr_r1 hY2 h.2.2) (hf2.tr (Fr1_y h.2.2))
  have at1 : ∀ (S2 : qSt) (s : PS), RS S2 T n s → q_I S2 1 0 4 = nI (tx T n isb a) → YR S2 y Y → fr (Fy y) S S2 → ((∃ q, s = .inr q ∧ (ycl T n k a Y).1 = .inr q) ∨ (s = .inl (tx T n isl (tx T n isb a)) ∧ ¬ ykd T (tx T n isb a) (tx T n isl (tx T n isb a)) = 0)) → AT 1 [some (.inr (.inr (3, y))), some (.inr (.inr (1, 0))), some (.inl (nI k)), some (.inl (nI (ykd T (tx T n isb a) (tx T n isl (tx T n isb a)))))] [] S2 := by
    intro S2 s hR2 hw hY2 hf2 hs2
    have to3 : ytm k (ykd T (tx T n isb a) (tx T n isl (tx T n isb a))) Y = true → AT 3 [some (.inr (.inr (3, y))), some (.inr (.inr (1, 0))), some (.inl (nI k)), some (.inl (nI (ykd T (tx T n isb a) (tx T n isl (tx T n isb a)))))] [] S2 := by
      intro ht
      refine at3 S2 s _ hR2 hw hY2 hf2 ?_
      rcases hs2 with ⟨q, rfl, h⟩ | ⟨rfl, h⟩
      · exact h
      · unfold ycl
        rw [if_neg h, if_pos ht]
        rfl
    have to4 : ytm k (ykd T (tx T n isb a) (tx T n isl (tx T n isb a))) Y = false → AT 4 [some (.inr (.inr (3, y))), some (.inr (.inr (1, 0))), some (.inl (nI k)), some (.inl (nI (ykd T (tx T n isb a) (tx T n isl (tx T n isb a)))))] [] S2 := by
      intro ht
      rcases hs2 with ⟨q, rfl, h⟩ | ⟨rfl, h⟩
      · exact stop S2 q _ h hR2 hY2 hf2
      · exact body S2 h ht hR2 hY2 hf2
    unfold ytm at to3 to4
    simp only [decide_eq_true_eq, decide_eq_false_iff_not] at to3 to4
    refine step 20 [(3, [true, true, true, true]), (4, [true, true, true, true])] 1 _ _ _ ?_
    simp only [q_vcs, q_vcc, q_vl, q_vu, ↓reduceIte, Nat.reduceEqDiff, Bool.false_eq_true, q_isc, q_mk, q_msk, zbX9_readClause, q_pad, q_ent, q_get, q_put, q_nl, q_w, List.cons_append, List.nil_append, q_aks, q_als, Nat.reduceAdd, Nat.reduceLeDiff, Nat.zero_le, true_and, and_true, Option.some.injEq, Sum.inl.injEq, Sum.inr.injEq, true_or, or_true, and_self, q_sw]
    rw [hY2.1, hY2.2.1, show (1 : Int32) = nI 1 from rfl, show (2 : Int32) = nI 2 from rfl, show (3 : Int32) = nI 3 from rfl, show (6 : Int32) = nI 6 from rfl, show (60 : Int32) = nI 60 from rfl, nI_eq (by omega) (by decide), nI_eq (by omega) (by decide), nI_leI (by decide) (by omega), nI_leI (by decide) (by omega), nI_ltI (by omega) (by decide)]
    refine ⟨fun h => to3 (by omega), fun h => ⟨fun h1 => ⟨fun h2 => to4 (by omega), fun h2 => ⟨fun h3 => to4 (by omega), fun h3 => to3 (by omega)⟩⟩, fun h1 => ⟨fun h2 => to3 (by omega), fun h2 => ⟨fun h3 => to4 (by omega), fun h3 => ⟨fun h4 => to4 (by omega), fun h4 => to3 (by omega)⟩⟩⟩⟩⟩
  refine step 20 [(1, [true, true, true, true])] 0 _ _ _ ?_
  simp only [q_vcs, q_vcc, q_vl, q_vu, ↓reduceIte, Nat.reduceEqDiff, Bool.false_eq_true, q_isc, q_mk, q_msk, zbX9_readClause, q_pad, q_ent, q_get, q_put, q_nl, q_w, List.cons_append, List.nil_append, q_aks, q_als, Nat.reduceAdd, Nat.reduceLeDiff, Nat.zero_le, true_and, and_true, Option.some.injEq, Sum.inl.injEq, Sum.inr.injEq, true_or, or_true, and_self, q_sw]
  refine ⟨_, _, (by decide : 1 < 6), c_readWord l S hR, fun S1 h => ?_⟩
  obtain ⟨k1, k2, k3⟩ := h
  have hY1 := yr_r1 hYR k3
  refine q_u1 (by decide) (c_kindOf l S1 k1 k2 hbc) ?_
  rw [k2, show (0 : Int32) = nI 0 from rfl, nI_eq (by omega) (by decide)]
  refine ⟨fun h => at1 S1 _ (show RS S1 T n (.inl _) from k1) k2 hY1 (Fr1_y k3) (Or.inr ⟨rfl, h⟩), fun h => ?_⟩
  refine ⟨_, _, (by decide : 0 < 6), c_rfail l S1 (k := 1) (show RS S1 T n (.inl _) from k1) (by decide) (by omega), fun S2 h2 => ?_⟩
  refine at1 S2 _ h2.1 (h2.2.1.trans k2) (yr_r1 hY1 h2.2.2) ((Fr1_y k3).tr (Fr1_y h2.2.2)) (Or.inl ⟨_, rfl, ?_⟩)
  unfold ycl
  rw [if_pos h]
theorem ycl_60 {T : Nat → Nat} {n k a : Nat} {Y : YD} (hk : 60 ≤ k) : ∃ q, (ycl T n k a Y).1 = .inr q := by
  unfold ycl
  split
  · exact ⟨_, rfl⟩
  · have : ytm k (ykd T (tx T n isb a) (tx T n isl (tx T n isb a))) Y = true := by unfold ytm; simp; omega
    rw [if_pos this]
    exact ⟨_, rfl⟩
theorem c_yread (l : Launch) (S : qSt) {T : Nat → Nat} {n y : Nat} (hR : RD S T n 0 none) : q_Met q_mt l 7 k_X9_read 0 [.inr (.inr (3, y)), .inr (.inr (1, 0))] S (fun _ S' => RS S' T n (yrl T n 62 0 0 Y0).1 ∧ (∃ Y', y_ok Y' ∧ YO S' y Y' ∧ ((yrl T n 62 0 0 Y0).1.isLeft = true → Y' = (yrl T n 62 0 0 Y0).2)) ∧ fr (Fy y) S S') := by
  refine q_meth zoX9_read q_fos (Nat.le_of_ble_eq_true rfl) ?_
  intro AT step
  have fin : ∀ (S2 : qSt) (s : PS) (Y1 : YD) (x : Int32), y_ok Y1 → RS S2 T n s → YR S2 y Y1 → fr (Fy y) S S2 → (yrl T n 62 0 0 Y0).1 = s → (s.isLeft = true → Y1 = (yrl T n 62 0 0 Y0).2) → AT 2 [some (.inr (.inr (3, y))), some (.inr (.inr (1, 0))), some (.inl x)] [] S2 := by
    intro S2 s Y1 x h1 h2 h3 h4 h5 h6
    refine step 20 [] 2 _ _ _ ?_
    simp only [q_vcs, q_vcc, q_vl, q_vu, ↓reduceIte, Nat.reduceEqDiff, Bool.false_eq_true, q_isc, q_mk, q_msk, zbX9_read, q_pad, q_ent, q_get, q_put, q_nl, q_w, List.cons_append, List.nil_append, q_aks, q_als, Nat.reduceAdd, Nat.reduceLeDiff, Nat.zero_le, true_and, and_true, Option.some.injEq, Sum.inl.injEq, Sum.inr.injEq, true_or, or_true, and_self, q_sw]
    refine ⟨_, _, (by decide : 2 < 7), c_order l S2 h1 h3, fun S3 h => ?_⟩
    rw [h5]
    refine ⟨h2.fr h.2 (by omega) (by omega), ⟨Y1, h1, h.1, h6⟩, h4.tr (h.2.mn fun f i h => ?_)⟩
    obtain ⟨q, h⟩ := h
    exact Or.inr ⟨q, by omega, by omega⟩
  have hL : ∀ (f k a : Nat) (S2 : qSt) (Y1 : YD), k + f = 62 → k ≤ 60 → y_ok Y1 → RD S2 T n a none → YR S2 y Y1 → fr (Fy y) S S2 → yrl T n f k a Y1 = yrl T n 62 0 0 Y0 → AT 1 [some (.inr (.inr (3, y))), some (.inr (.inr (1, 0))), some (.inl (nI k))] [] S2 := by
    intro f
    induction f with
    | zero => intro k a S2 Y1 h1 h2; omega
    | succ f ih =>
      intro k a S2 Y1 h1 h2 hY1 hR2 hYR2 hf2 he
      refine step 20 [(1, [true, true, true]), (2, [true, true, true])] 1 _ _ _ ?_
      simp only [q_vcs, q_vcc, q_vl, q_vu, ↓reduceIte, Nat.reduceEqDiff, Bool.false_eq_true, q_isc, q_mk, q_msk, zbX9_read, q_pad, q_ent, q_get, q_put, q_nl, q_w, List.cons_append, List.nil_append, q_aks, q_als, Nat.reduceAdd, Nat.reduceLeDiff, Nat.zero_le, true_and, and_true, Option.some.injEq, Sum.inl.injEq, Sum.inr.injEq, true_or, or_true, and_self, q_sw]
      rw [show (60 : Int32) = nI 60 from rfl, nI_ltI (by decide) (by omega)]
      refine ⟨fun h => absurd h (by omega), fun _ => q_u1 (by decide) (c_sound l S2 (s := .inl a) hR2) ⟨fun h => absurd h (show ¬ (1 : Int32) = 0 by decide), fun _ => ?_⟩⟩
      refine ⟨_, _, (by decide : 1 < 7), c_isAtEnd l S2 hR2, fun v S3 h => ?_⟩
      obtain ⟨hv, h3⟩ := h
      cases hv
      have hYR3 := yr_r1 hYR2 h3.2.2
      have hf3 := hf2.tr (Fr1_y (y := y) h3.2.2)
      rw [bI_0]
      by_cases hend : n ≤ tx T n isb a
      · refine ⟨fun _ => fin S3 (.inl (tx T n isb a)) Y1 _ hY1 h3.1 hYR3 hf3 ?_ (fun _ => ?_), fun h => absurd h (by simp [hend])⟩
        · rw [← he, yrl, if_pos hend]
        · rw [← he, yrl, if_pos hend]
      · refine ⟨fun h => absurd (by simp [hend]) h, fun _ => ?_⟩
        refine ⟨_, _, (by decide : 6 < 7), c_ybody l S3 (k := k) hY1 h3.1 hYR3 (by omega), fun S4 h4 => ?_⟩
        obtain ⟨g1, ⟨Y2, g2, g3, g4⟩, g5⟩ := h4
        rw [yrl, if_neg hend] at he
        rw [nI_1]
        cases hc : ycl T n k (tx T n isb a) Y1 with
        | mk s Y3 =>
          rw [hc] at he g1 g4
          cases s with
          | inl b =>
            dsimp only at he g1 g4
            have e3 : Y2 = Y3 := g4 rfl
            subst e3
            have hk60 : k ≠ 60 := fun q => by
              obtain ⟨q, hq⟩ := ycl_60 (T := T) (n := n) (k := k) (a := tx T n isb a) (Y := Y1) (by omega)
              rw [hc] at hq
              cases hq
            exact ih (k + 1) b S4 Y2 (by omega) (by omega) g2 g1 g3 (hf3.tr g5) he
          | inr q =>
            dsimp only at he g1 g4
            obtain ⟨b, g1⟩ := g1
            refine step 20 [(1, [true, true, true]), (2, [true, true, true])] 1 _ _ _ ?_
            simp only [q_vcs, q_vcc, q_vl, q_vu, ↓reduceIte, Nat.reduceEqDiff, Bool.false_eq_true, q_isc, q_mk, q_msk, zbX9_read, q_pad, q_ent, q_get, q_put, q_nl, q_w, List.cons_append, List.nil_append, q_aks, q_als, Nat.reduceAdd, Nat.reduceLeDiff, Nat.zero_le, true_and, and_true, Option.some.injEq, Sum.inl.injEq, Sum.inr.injEq, true_or, or_true, and_self, q_sw]
            have goon : AT 2 [some (.inr (.inr (3, y))), some (.inr (.inr (1, 0))), some (.inl (nI (k + 1)))] [] S4 := fin S4 (.inr q) Y2 _ g2 ⟨b, g1⟩ g3 (hf3.tr g5) (by rw [← he]) (fun h => by cases h)
            refine ⟨fun _ => goon, fun _ => q_u1 (by decide) (c_sound l S4 (s := .inr q) ⟨b, g1⟩) ⟨fun _ => goon, fun h => absurd rfl h⟩⟩
  refine step 20 [(1, [true, true, true])] 0 _ _ _ ?_
  simp only [q_vcs, q_vcc, q_vl, q_vu, ↓reduceIte, Nat.reduceEqDiff, Bool.false_eq_true, q_isc, q_mk, q_msk, zbX9_read, q_pad, q_ent, q_get, q_put, q_nl, q_w, List.cons_append, List.nil_append, q_aks, q_als, Nat.reduceAdd, Nat.reduceLeDiff, Nat.zero_le, true_and, and_true, Option.some.injEq, Sum.inl.injEq, Sum.inr.injEq, true_or, or_true, and_self, q_sw]
  have hf0 : fr (fun f i => i = y ∧ 3 ≤ f ∧ f ≤ 11) S (q_wI (q_wI (q_wI S 3 y 0 0) 3 y 1 0) 3 y 2 5) := fr.wI (fr.wI (fr.wI fr.rf ⟨rfl, by decide, by decide⟩) ⟨rfl, by decide, by decide⟩) ⟨rfl, by decide, by decide⟩
  refine hL 62 0 0 _ Y0 rfl (by decide) Y0_ok (hR.fr hf0 (by omega) (by omega)) ⟨?_, ?_, ?_, fun k hk => ?_, fun k hk => ?_⟩ (hf0.mn fun f i h => Or.inr h) rfl
  · simp [q_I_wI, Y0]; rfl
  · simp [q_I_wI, Y0]; rfl
  · simp [q_I_wI, Y0]; rfl
  · simp [Y0] at hk
  · simp [Y0] at hk
