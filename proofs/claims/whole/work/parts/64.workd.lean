/-! Work: steps -/
theorem pnm_left {T : Nat → Nat} {n lo h : Nat} {s : PS} (hh : (pnm T n lo h s).isLeft = true) : s.isLeft = true := by
  cases s with
  | inl a => rfl
  | inr q => cases hh
theorem isL {s : PS} {b : Nat} (h : s = .inl b) : s.isLeft = true := by rw [h]; rfl
set_option maxHeartbeats 1000000 in
theorem ww_steps {l : Launch} {T : Nat → Nat} {n : Nat} {Y : YD} {cd : List Tok} {y : Nat} (hn : n ≤ 150) (f : Nat) (ih : ∀ g, g < f → WwU l T n Y cd y g) : WwS l T n Y cd y f := by
  intro o s x S z0 hx ho hR hz0 hza hYR
  refine q_meth zoX8_readSteps q_fos (Nat.le_of_ble_eq_true rfl) ?_
  intro AT step
  have d1 : 1 < 10 + 3 * (6 - o) := by omega
  have d0 : 0 < 10 + 3 * (6 - o) := by omega
  have hF : ∀ (k z : Nat) (q : Nat × Nat) (S2 : qSt), x.1 = .inr q → RS S2 T n (.inr q) → WC S2 z → z0 ≤ z → (∀ q i, q < 4 → i < z0 → wE S2 q i = wE S q i) → fr Fwk S S2 → AT 1 [some (.inr (.inr (18, 0))), some (.inr (.inr (1, 0))), some (.inr (.inr (3, y))), some (.inl (nI o)), some (.inl (nI k))] [] S2 := by
    intro k z q S2 hq hR2 hz hzz he hf2
    have fin : WwQ T n Y cd z0 x S S2 := by
      refine ⟨by rw [hq]; exact hR2, ⟨z, hz, hzz, fun b hb => ?_⟩, he, hf2⟩
      rw [hq] at hb
      cases hb
    refine step 40 [(1, [true, true, true, true, true]), (4, [true, true, true, true, true])] 1 _ _ _ ?_
    simp only [q_vcs, q_vcc, q_vl, q_vu, ↓reduceIte, Nat.reduceEqDiff, Bool.false_eq_true, q_isc, q_mk, q_msk, zbX8_readSteps, q_pad, q_ent, q_get, q_put, q_nl, q_w, List.cons_append, List.nil_append, q_aks, q_als, Nat.reduceAdd, Nat.reduceLeDiff, Nat.zero_le, true_and, and_true, Option.some.injEq, Sum.inl.injEq, Sum.inr.injEq, true_or, or_true, and_self, q_sw]
    refine ⟨fun _ => fin, fun _ => q_u1 d0 (c_sound l S2 hR2) ⟨fun _ => fin, fun h => absurd rfl h⟩⟩
  have hL : ∀ (g : Nat), g ≤ f → ∀ (k a z : Nat) (S2 : qSt) (Xa : WF) (w : PS × WF), wp T n Y cd g 0 o a = some w → w.1 = x.1 → (w.1.isLeft = true → x.2 = fun s => w.2 (Xa s)) → RD S2 T n a none → WC S2 z → z ≤ a → 4 * k ≤ a → z0 ≤ z → CI Y cd (wE S2) z0 z Xa → (∀ q i, q < 4 → i < z0 → wE S2 q i = wE S q i) → fr Fwk S S2 → AT 1 [some (.inr (.inr (18, 0))), some (.inr (.inr (1, 0))), some (.inr (.inr (3, y))), some (.inl (nI o)), some (.inl (nI k))] [] S2 := by
    intro g
    induction g with
    | zero => intro _ k a z S2 Xa w hw; cases hw
    | succ g ihg =>
      intro hg k a z S2 Xa w hw hw1 hw2 hR2 hz hzl hk hzz hci he hf2
      have hn2 := hR2.1
      have hge := tx_ge T n isb a
      have hle : tx T n isb a ≤ n := tx_le hn2.2.1
      have at4 : ∀ (S3 : qSt), RD S3 T n (tx T n isb a) none → fr Fr1 S2 S3 → ¬ sen T n o (tx T n isb a) = true → AT 4 [some (.inr (.inr (18, 0))), some (.inr (.inr (1, 0))), some (.inr (.inr (3, y))), some (.inl (nI o)), some (.inl (nI k))] [] S3 := by
        intro S3 hR3 hf3 hs
        rw [wp_0s hs] at hw
        have key : ∃ u, wp T n Y cd g 1 o (tx T n isb a) = some u ∧ (∀ b, u.1 = .inl b → tx T n isb a + 3 ≤ b) ∧ (∀ q, psg T n 59 u.1 = .inr q → w.1 = .inr q) ∧ (∀ b2, psg T n 59 u.1 = .inl b2 → ∃ v, wp T n Y cd g 0 o b2 = some v ∧ v.1 = w.1 ∧ (v.1.isLeft = true → w.2 = fun s => v.2 (u.2 s))) := by
          rcases andW_cases hw with ⟨b, X1, e1, h2⟩ | ⟨q, X1, e1, h2⟩
          · refine ⟨_, e1, fun b' hb' => ?_, fun q hq => ?_, fun b2 hb2 => ?_⟩
            · cases hb'
              have := wp_len g 1 o _ b X1 (by decide) e1 hle
              omega
            · have hq : psg T n 59 (.inl b) = .inr q := hq
              rw [hq] at h2
              cases h2
              rfl
            · have hb2 : psg T n 59 (.inl b) = .inl b2 := hb2
              rw [hb2] at h2
              rcases andW_cases (show andW (wp T n Y cd g 0 o b2) _ = some w from h2) with ⟨b3, X3, e3, h5⟩ | ⟨q, X3, e3, h5⟩
              · cases h5
                exact ⟨_, e3, rfl, fun _ => rfl⟩
              · refine ⟨_, e3, by rw [h5], fun h => by cases h⟩
          · refine ⟨_, e1, fun b' hb' => (by cases hb'), fun q' hq => ?_, fun b2 hb2 => (by cases hb2)⟩
            have hq : (.inr q : PS) = .inr q' := hq
            rw [h2, ← hq]
        obtain ⟨u, hu, u1, u2, u3⟩ := key
        refine step 40 [(1, [true, true, true, true, true])] 4 _ _ _ ?_
        simp only [q_vcs, q_vcc, q_vl, q_vu, ↓reduceIte, Nat.reduceEqDiff, Bool.false_eq_true, q_isc, q_mk, q_msk, zbX8_readSteps, q_pad, q_ent, q_get, q_put, q_nl, q_w, List.cons_append, List.nil_append, q_aks, q_als, Nat.reduceAdd, Nat.reduceLeDiff, Nat.zero_le, true_and, and_true, Option.some.injEq, Sum.inl.injEq, Sum.inr.injEq, true_or, or_true, and_self, q_sw]
        refine ⟨_, _, (show 9 + 3 * (6 - o) < 10 + 3 * (6 - o) by omega), ih g (by omega) o (tx T n isb a) u S3 z hu ho hR3 (wc_r1 hz hf3) (by omega) (yr_wk hYR (hf2.tr (fwk_1 hf3))), fun S4 h4 => ?_⟩
        obtain ⟨r1, ⟨z4, r2, r3, r4⟩, r5, r6⟩ := h4
        refine ⟨_, _, d1, c_rsign l S4 (c := 59) r1 (by decide), fun S5 h5 => ?_⟩
        rw [nI_1]
        have hf5 := ((hf2.tr (fwk_1 hf3)).tr r6).tr (fwk_1 h5.2.2)
        have e5 : ∀ q i, q < 4 → i < z0 → wE S5 q i = wE S q i := fun q i hq hi => by
          rw [wE_r1 h5.2.2, r5 q i hq (by omega), wE_r1 hf3, he q i hq hi]
        cases hp : psg T n 59 u.1 with
        | inr q =>
          rw [hp] at h5
          exact hF (k + 1) z4 q S5 (by rw [← hw1]; exact u2 q hp) h5.1 (wc_r1 r2 h5.2.2) (by omega) e5 hf5
        | inl b2 =>
          rw [hp] at h5
          obtain ⟨v, v1, v2, v3⟩ := u3 b2 hp
          obtain ⟨b1, e1, p1, p2⟩ := psg_lt hp
          have hb1 := u1 b1 e1
          obtain ⟨q1, q2⟩ := r4 b1 e1
          refine ihg (by omega) (k + 1) b2 z4 S5 (fun s => u.2 (Xa s)) v v1 (v2.trans hw1) (fun hl => ?_) h5.1 (wc_r1 r2 h5.2.2) (by omega) (by omega) (by omega) ?_ e5 hf5
          · rw [hw2 (by rw [← v2]; exact hl), v3 hl]
          · have c1 : CI Y cd (wE S5) z0 z Xa := hci.cong fun q i hq h1 h2 => by
              rw [wE_r1 h5.2.2, r5 q i hq h2, wE_r1 hf3]
            have c2 : CI Y cd (wE S5) z z4 u.2 := q2.cong fun q i hq h1 h2 => by rw [wE_r1 h5.2.2]
            exact c1.seq c2
      have fin : ∀ (S3 : qSt), RD S3 T n (tx T n isb a) none → fr Fr1 S2 S3 → sen T n o (tx T n isb a) = true → WwQ T n Y cd z0 x S S3 := by
        intro S3 hR3 hf3 hs
        rw [wp_0e hs] at hw
        cases hw
        refine ⟨by rw [← hw1]; exact hR3, ⟨z, wc_r1 hz hf3, hzz, fun b hb => ?_⟩, fun q i hq hi => by rw [wE_r1 hf3, he q i hq hi], hf2.tr (fwk_1 hf3)⟩
        rw [← hw1] at hb
        cases hb
        refine ⟨by omega, ?_⟩
        rw [hw2 rfl]
        exact hci.cong fun q i hq h1 h2 => wE_r1 hf3 q i
      refine step 40 [(1, [true, true, true, true, true]), (4, [true, true, true, true, true])] 1 _ _ _ ?_
      simp only [q_vcs, q_vcc, q_vl, q_vu, ↓reduceIte, Nat.reduceEqDiff, Bool.false_eq_true, q_isc, q_mk, q_msk, zbX8_readSteps, q_pad, q_ent, q_get, q_put, q_nl, q_w, List.cons_append, List.nil_append, q_aks, q_als, Nat.reduceAdd, Nat.reduceLeDiff, Nat.zero_le, true_and, and_true, Option.some.injEq, Sum.inl.injEq, Sum.inr.injEq, true_or, or_true, and_self, q_sw]
      rw [show (150 : Int32) = nI 150 from rfl, nI_leI (by decide) (by omega), show (0 : Int32) = nI 0 from rfl, nI_eq (by omega) (by decide)]
      refine ⟨fun h => absurd h (by omega), fun _ => q_u1 d0 (c_sound l S2 (s := .inl a) hR2) ⟨fun h => absurd h (show ¬ (1 : Int32) = 0 by decide), fun _ => ⟨fun h0 => ?_, fun h0 => ?_⟩⟩⟩
      · refine ⟨_, _, d1, c_isNext l S2 (c := 93) hR2 (by decide), fun v S3 h3 => ?_⟩
        obtain ⟨hv, h3⟩ := h3
        cases hv
        rw [show nI 0 = (0 : Int32) from rfl, bI_0]
        have es : sen T n o (tx T n isb a) = decide (hr T n (tx T n isb a) = some 93) := by unfold sen; rw [if_neg h0]
        rw [← es]
        exact ⟨fun h => at4 S3 h3.1 h3.2.2 (by rw [h]; decide), fun h => fin S3 h3.1 h3.2.2 (ts_nf h)⟩
      · refine ⟨_, _, d1, c_isAtEnd l S2 hR2, fun v S3 h3 => ?_⟩
        obtain ⟨hv, h3⟩ := h3
        cases hv
        rw [show nI 0 = (0 : Int32) from rfl, bI_0]
        have es : sen T n o (tx T n isb a) = decide (n ≤ tx T n isb a) := by unfold sen; rw [if_pos h0]
        rw [← es]
        exact ⟨fun h => at4 S3 h3.1 h3.2.2 (by rw [h]; decide), fun h => fin S3 h3.1 h3.2.2 (ts_nf h)⟩
  refine step 40 [(1, [true, true, true, true, true])] 0 _ _ _ ?_
  simp only [q_vcs, q_vcc, q_vl, q_vu, ↓reduceIte, Nat.reduceEqDiff, Bool.false_eq_true, q_isc, q_mk, q_msk, zbX8_readSteps, q_pad, q_ent, q_get, q_put, q_nl, q_w, List.cons_append, List.nil_append, q_aks, q_als, Nat.reduceAdd, Nat.reduceLeDiff, Nat.zero_le, true_and, and_true, Option.some.injEq, Sum.inl.injEq, Sum.inr.injEq, true_or, or_true, and_self, q_sw]
  cases s with
  | inr q =>
    cases hx
    exact hF 0 z0 q S rfl hR hz0 (Nat.le_refl _) (fun _ _ _ _ => rfl) fr.rf
  | inl a => exact hL f (Nat.le_refl _) 0 a z0 S id x hx rfl (fun _ => rfl) hR hz0 (hza a rfl) (by omega) (Nat.le_refl _) (CI.nil z0) (fun _ _ _ _ => rfl) fr.rf
set_option maxHeartbeats 1000000 in
theorem ww_again {l : Launch} {T : Nat → Nat} {n : Nat} {Y : YD} {cd : List Tok} {y : Nat} (hn : n ≤ 150) (f : Nat) (ih : WwS l T n Y cd y f) {o a z : Nat} {x : PS × WF} {S : qSt} (hs : skd T (tx T n isb a) (tx T n isl (tx T n isb a)) = some 4) (hx : wp T n Y cd (f + 1) 1 o a = some x) (ho : o ≤ 6) (hR : RD S T n (tx T n isl (tx T n isb a)) none) (hw : q_I S 1 0 4 = nI (tx T n isb a)) (hz : WC S z) (hza : z ≤ a) (hYR : YR S y Y) : q_Met q_mt l (8 + 3 * (6 - o)) k_X8_readAgain 0 [.inr (.inr (18, 0)), .inr (.inr (1, 0)), .inr (.inr (3, y)), .inl (nI o)] S (fun _ S' => WwQ T n Y cd z x S S') := by
  have hn6 := hR.1
  have hge := tx_ge T n isb a
  have hlt := skd_lt hs
  have hz150 := hz.2
  have d2 : 2 < 8 + 3 * (6 - o) := by omega
  have d1 : 1 < 8 + 3 * (6 - o) := by omega
  have d0 : 0 < 8 + 3 * (6 - o) := by omega
  refine q_meth zoX8_readAgain q_fos (Nat.le_of_ble_eq_true rfl) ?_
  intro AT step
  refine step 20 [(2, [true, true, true, true, true])] 0 _ _ _ ?_
  simp only [q_vcs, q_vcc, q_vl, q_vu, ↓reduceIte, Nat.reduceEqDiff, Bool.false_eq_true, q_isc, q_mk, q_msk, zbX8_readAgain, q_pad, q_ent, q_get, q_put, q_nl, q_w, List.cons_append, List.nil_append, q_aks, q_als, Nat.reduceAdd, Nat.reduceLeDiff, Nat.zero_le, true_and, and_true, Option.some.injEq, Sum.inl.injEq, Sum.inr.injEq, true_or, or_true, and_self, q_sw]
  rw [show (6 : Int32) = nI 6 from rfl, nI_ltI (by omega) (by decide), hw]
  refine ⟨fun h6 => ?_, fun h6 => ?_⟩
  · rw [wp_1a hs (by omega)] at hx
    refine ⟨_, _, d2, c_rnum l S (lo := 0) (h := 31) (s := .inl (tx T n isl (tx T n isb a))) hR rfl (by decide) (by decide) (by decide), fun v S1 h1 => ?_⟩
    obtain ⟨N, hv, a1, a2, a3, a4⟩ := h1
    cases hv
    rw [hz.1]
    refine ⟨_, _, d0, c_wwrite l S1 4 (nI N) 0 0 (wc_r1 hz a4.2.2), fun S2 h2 => ?_⟩
    obtain ⟨⟨z2, b1, b2, b3⟩, b4, b5⟩ := h2
    refine ⟨_, _, d1, c_rsign l S2 (c := 91) (rs_w2 a4.1 b5) (by decide), fun S3 h3 => ?_⟩
    have hf3 : fr Fwk S S3 := ((fwk_1 a4.2.2).tr (fwk_2 b5)).tr (fwk_1 h3.2.2)
    have b3 := b3 (by omega)
    have b30 := b3.1
    subst b30
    have key : ∃ u, wpS T n Y cd f (o + 1) (psg T n 91 (pnm T n 0 31 (.inl (tx T n isl (tx T n isb a))))) = some u ∧ x.1 = psg T n 93 u.1 ∧ (x.1.isLeft = true → x.2 = agf (nmN T n (tx T n isl (tx T n isb a))) u.2) := by
      rcases andW_cases hx with ⟨b, X1, e1, h2⟩ | ⟨q, X1, e1, h2⟩
      · rw [(wfst e1).1]
        rcases andW_cases h2 with ⟨b3, X3, e3, h5⟩ | ⟨q, X3, e3, h5⟩
        · cases h5
          exact ⟨_, e3, rfl, fun _ => rfl⟩
        · refine ⟨_, e3, by rw [h5]; rfl, fun h => ?_⟩
          rw [h5] at h
          cases h
      · have e1 : psg T n 91 (pnm T n 0 31 (.inl (tx T n isl (tx T n isb a)))) = .inr q := congrArg Prod.fst (Option.some.inj e1)
        rw [e1]
        refine ⟨(.inr q, id), rfl, by rw [h2]; rfl, fun h => ?_⟩
        rw [h2] at h
        cases h
    obtain ⟨u, hu, u1, u2⟩ := key
    rw [nI_1]
    have hz3 : ∀ b, psg T n 91 (pnm T n 0 31 (.inl (tx T n isl (tx T n isb a)))) = .inl b → z + 1 ≤ b := fun b hb => by
      obtain ⟨b1, e1, p1, -⟩ := psg_lt hb
      obtain ⟨b2, e2, p2, -⟩ := pnm_lt e1
      cases e2
      omega
    refine ⟨_, _, (show 10 + 3 * (6 - (o + 1)) < 8 + 3 * (6 - o) by omega), ih (o + 1) _ u S3 (z + 1) hu (by omega) h3.1 (wc_r1 b1 h3.2.2) hz3 (yr_wk hYR hf3), fun S4 h4 => ?_⟩
    obtain ⟨c1, ⟨z4, c2, c3, c4⟩, c5, c6⟩ := h4
    refine ⟨_, _, d1, c_rsign l S4 (c := 93) c1 (by decide), fun S5 h5 => ?_⟩
    rw [← u1] at h5
    have hf5 := (hf3.tr c6).tr (fwk_1 h5.2.2)
    have hz5 := wc_r1 c2 h5.2.2
    have hz4 := hz5.2
    rw [hz5.1, nI_leI (by omega) (by omega), i_cl (by omega)]
    refine ⟨fun h => absurd h (by omega), fun _ => ⟨i_in (by omega) (by decide), ?_⟩⟩
    refine step 20 [] 2 _ _ _ ?_
    simp only [q_vcs, q_vcc, q_vl, q_vu, ↓reduceIte, Nat.reduceEqDiff, Bool.false_eq_true, q_isc, q_mk, q_msk, zbX8_readAgain, q_pad, q_ent, q_get, q_put, q_nl, q_w, List.cons_append, List.nil_append, q_aks, q_als, Nat.reduceAdd, Nat.reduceLeDiff, Nat.zero_le, true_and, and_true, Option.some.injEq, Sum.inl.injEq, Sum.inr.injEq, true_or, or_true, and_self, q_sw]
    have hf6 : fr Fw2 S5 (q_wI S5 21 0 z (nI z4)) := fr.wI fr.rf (by decide)
    have hz6 : WC (q_wI S5 21 0 z (nI z4)) z4 := hz5
    refine ⟨_, _, d0, c_wwrite l _ 5 (nI z) 0 0 hz6, fun S7 h7 => ?_⟩
    obtain ⟨⟨z7, g1, g2, g3⟩, g4, g5⟩ := h7
    have hf7 : fr Fw2 S5 S7 := hf6.tr g5
    have e7 : ∀ q i, q < 4 → i < z4 → ¬ (q = 2 ∧ i = z) → wE S7 q i = wE S4 q i := fun q i hq hi hne => by
      rw [g4 q i hq hi]
      unfold wE
      rw [q_I_wI, if_neg (by omega)]
      exact wE_r1 h5.2.2 q i
    have e4 : ∀ q, q < 4 → wE S4 q z = wE S2 q z := fun q hq => by
      rw [c5 q z hq (by omega), wE_r1 h3.2.2]
    refine ⟨rs_w2 h5.1 hf7, ⟨z7, g1, by omega, fun b hb => ?_⟩, fun q i hq hi => ?_, hf5.tr (fwk_2 hf7)⟩
    · have hl : x.1.isLeft = true := isL hb
      have hb2 := hb
      rw [u1] at hb
      obtain ⟨bu, eu, pu, -⟩ := psg_lt hb
      obtain ⟨k1, k2⟩ := c4 bu eu
      have hnb : b ≤ n := by
        have := h5.1
        rw [hb2] at this
        exact (show RD S5 T n b none from this).1.2.1
      have g3 := g3 (by omega)
      have g30 := g3.1
      subst g30
      refine ⟨by omega, ?_⟩
      rw [u2 hl]
      have hpl : (pnm T n 0 31 (.inl (tx T n isl (tx T n isb a)))).isLeft = true := by
        have : (psg T n 91 (pnm T n 0 31 (.inl (tx T n isl (tx T n isb a))))).isLeft = true := by
          cases hp : psg T n 91 (pnm T n 0 31 (.inl (tx T n isl (tx T n isb a)))) with
          | inl _ => rfl
          | inr q =>
            rw [hp] at hu
            have hu := Option.some.inj hu
            rw [← hu] at eu
            cases eu
        exact psg_left this
      have hN : N = nmN T n (tx T n isl (tx T n isb a)) := (a3 hpl).1
      rw [← hN]
      refine CI.ag (j := z) (m := z4) ?_ ?_ (by omega) ?_ (by omega) (by omega) g3.2.1 g3.2.2.1 (k2.cong fun q i hq h1 h2 => e7 q i hq h2 (by omega))
      · rw [e7 0 z (by decide) (by omega) (by omega), e4 0 (by decide)]
        exact b3.2.1
      · rw [e7 1 z (by decide) (by omega) (by omega), e4 1 (by decide)]
        exact b3.2.2.1
      · rw [g4 2 z (by decide) (by omega)]
        unfold wE
        rw [q_I_wI, if_pos ⟨rfl, rfl, rfl⟩]
    · rw [e7 q i hq (by omega) (by omega), c5 q i hq (by omega), wE_r1 h3.2.2, b4 q i hq hi, wE_r1 a4.2.2]
  · rw [wp_1m hs (by omega)] at hx
    cases hx
    refine ⟨_, _, d0, c_rfail l S (k := 3) (s := .inl _) hR (by decide) (by omega), fun S1 h1 => ?_⟩
    exact ⟨h1.1, ⟨z, wc_r1 hz h1.2.2, Nat.le_refl _, fun b hb => by cases hb⟩, fun q i hq hi => wE_r1 h1.2.2 q i, fwk_1 h1.2.2⟩
