/-! Law: products, units -/
set_option maxHeartbeats 2000000 in
theorem lw_prod {l : Launch} {T : Nat → Nat} {n i : Nat} (hn : n ≤ 150) (f : Nat) (ih : ∀ g, g ≤ f → LwC l T n i 4 k_X1_readUnit g D4) : LwC l T n i 2 k_X1_readProduct (f + 1) D2 := by
  intro o s c x S hx ho hR hc
  have hD2 : 2 < D2 o := by unfold D2; omega
  refine q_meth zoX1_readProduct q_fos (Nat.le_of_ble_eq_true rfl) ?_
  intro AT step
  have hF : ∀ (k : Nat) (q : Nat × Nat) (S2 : qSt), x.1 = .inr q → RS S2 T n (.inr q) → (∃ c', LC S2 i c') → k ≤ 200 → fr (Flw i) S S2 → AT 1 [some (.inr (.inr (12, i))), some (.inr (.inr (1, 0))), some (.inl (nI o)), some (.inl (nI k)), none] [] S2 := by
    intro k q S2 hq hR2 hc2 hk hf2
    obtain ⟨c2, hc2⟩ := hc2
    refine step 40 [(1, [true, true, true, true, false]), (6, [true, true, true, true, true])] 1 _ _ _ ?_
    simp only [q_vcs, q_vcc, q_vl, q_vu, ↓reduceIte, Nat.reduceEqDiff, Bool.false_eq_true, q_isc, q_mk, q_msk, zbX1_readProduct, q_pad, q_ent, q_get, q_put, q_nl, q_w, List.cons_append, List.nil_append, q_aks, q_als, Nat.reduceAdd, Nat.reduceLeDiff, Nat.zero_le, true_and, and_true, Option.some.injEq, Sum.inl.injEq, Sum.inr.injEq, true_or, or_true, and_self, q_sw]
    refine ⟨fun _ => ?_, fun _ => ⟨_, _, hD2, c_rskipIf l S2 (c := 42) hR2 (by decide), fun v S3 h3 => ?_⟩⟩
    · rw [LwQ, hq]
      exact ⟨hR2, ⟨c2, hc2, fun b hb => by cases hb⟩, hf2⟩
    obtain ⟨hv, h3⟩ := h3
    cases hv
    refine ⟨fun _ => ⟨_, _, hD2, c_rskipIf l S3 (c := 47) h3.1 (by decide), fun v S4 h4 => ?_⟩, fun h => absurd rfl h⟩
    obtain ⟨hv, h4⟩ := h4
    cases hv
    refine ⟨fun _ => ⟨_, _, hD2, c_rskipIf l S4 (c := 37) h4.1 (by decide), fun v S5 h5 => ?_⟩, fun h => absurd rfl h⟩
    obtain ⟨hv, h5⟩ := h5
    cases hv
    refine ⟨fun _ => ⟨fun h => absurd trivial h, fun _ => ?_⟩, fun h => absurd rfl h⟩
    rw [LwQ, hq]
    exact ⟨h5.1, ⟨c2, lc_r1 (lc_r1 (lc_r1 hc2 h3.2.2) h4.2.2) h5.2.2, fun b hb => by cases hb⟩, ((hf2.tr (flw_1 h3.2.2)).tr (flw_1 h4.2.2)).tr (flw_1 h5.2.2)⟩
  have hL : ∀ (g : Nat), g ≤ f → ∀ (k a : Nat) (c : List Tok) (S2 : qSt), lp T n g 3 o a c = some x → RD S2 T n a none → LcP S2 i (.inl a) c → k ≤ a → fr (Flw i) S S2 → AT 1 [some (.inr (.inr (12, i))), some (.inr (.inr (1, 0))), some (.inl (nI o)), some (.inl (nI k)), none] [] S2 := by
    intro g
    induction g with
    | zero => intro _ k a c S2 hx; cases hx
    | succ g ihg =>
      intro hg k a c S2 hx hR2 hc2 hk hf2
      have hn2 := hR2.1
      have at5 : ∀ (kk : Nat) (S3 : qSt), pop T n (tx T n isb a) = some kk → RD S3 T n (tx T n isb a + 1) none → fr Fr1 S2 S3 → AT 6 [some (.inr (.inr (12, i))), some (.inr (.inr (1, 0))), some (.inl (nI o)), some (.inl (nI k)), some (.inl (nI (1098 + kk)))] [] S3 := by
        intro kk S3 hs hR3 hf3
        have hge := tx_ge T n isb a
        have hlt := (pop_lt hs)
        rw [lp_3s hs] at hx
        have hc3 : LcP S3 i (.inl (tx T n isb a + 1)) c := by
          obtain ⟨c', h1, h2⟩ := lcp_r1 hc2 hf3
          refine ⟨c', h1, fun b hb => ?_⟩
          cases hb
          have := h2 a rfl
          exact ⟨this.1, by omega⟩
        have key : ∃ y, lp T n g 4 o (tx T n isb a + 1) c = some y ∧ (∀ b, y.1 = .inl b → lp T n g 3 o b (y.2 ++ [(kk, 0)]) = some x ∧ y.2.length < b ∧ tx T n isb a + 1 ≤ b) ∧ (∀ q, y.1 = .inr q → x.1 = .inr q) := by
          rcases andT_cases hx with ⟨b, c1, h1, h2⟩ | ⟨q, c1, h1, h2⟩
          · refine ⟨_, h1, fun b' hb' => ?_, fun q hq => by cases hq⟩
            cases hb'
            have hl := lp_len T n g 4 o _ c b c1 h1 (by omega)
            have h5 := hl.2.2.2 (by decide) (by decide)
            obtain ⟨c', k1, k2⟩ := hc2
            have := (k2 a rfl).2
            exact ⟨h2, by show c1.length < b; omega, by omega⟩
          · refine ⟨_, h1, fun b' hb' => (by cases hb'), fun q' hq => ?_⟩
            cases hq
            rw [h2]
        obtain ⟨y, hy, hy1, hy2⟩ := key
        refine step 40 [(1, [true, true, true, true, false])] 6 _ _ _ ?_
        simp only [q_vcs, q_vcc, q_vl, q_vu, ↓reduceIte, Nat.reduceEqDiff, Bool.false_eq_true, q_isc, q_mk, q_msk, zbX1_readProduct, q_pad, q_ent, q_get, q_put, q_nl, q_w, List.cons_append, List.nil_append, q_aks, q_als, Nat.reduceAdd, Nat.reduceLeDiff, Nat.zero_le, true_and, and_true, Option.some.injEq, Sum.inl.injEq, Sum.inr.injEq, true_or, or_true, and_self, q_sw]
        refine ⟨_, _, (show D4 o < D2 o by unfold D4 D2; omega), ih g (by omega) o (.inl (tx T n isb a + 1)) c y S3 hy ho hR3 hc3, fun S4 h4 => ?_⟩
        obtain ⟨r1, r2, r3⟩ := h4
        have hf4 := (hf2.tr (flw_1 hf3)).tr r3
        obtain ⟨c4, r4, r5⟩ := r2
        refine ⟨_, _, (show 0 < D2 o by unfold D2; omega), c_lwrite l S4 (nI (1098 + kk)) r4, fun S5 h5 => ?_⟩
        obtain ⟨⟨c5, t1, t2⟩, t3⟩ := h5
        rw [nI_1]
        have hf5 := hf4.tr (flw_2 t3)
        have r6 := rs_lw r1 t3
        cases hy3 : y.1 with
        | inr q =>
          rw [hy3] at r6
          exact hF (k + 1) q S5 (hy2 q hy3) r6 ⟨c5, t1⟩ (by omega) hf5
        | inl b =>
          rw [hy3] at r1 r6
          obtain ⟨p1, p2, p3⟩ := hy1 b hy3
          refine ihg (by omega) (k + 1) b (y.2 ++ [(kk, 0)]) S5 p1 r6 ?_ (by omega) hf5
          refine ⟨c5, t1, fun b' hb' => ?_⟩
          cases hb'
          have e := (r5 b hy3).1
          have hnb := (show RD S4 T n b none from r1).1
          have ekk : tkI (kk, 0) = nI (1098 + kk) := by
            have : kk = 4 ∨ kk = 5 ∨ kk = 6 := by omega
            rcases this with rfl | rfl | rfl <;> rfl
          rw [t2 (by rw [e]; simp; omega), e]
          simp [ekk]
          omega
      refine step 40 [(1, [true, true, true, true, false]), (6, [true, true, true, true, true])] 1 _ _ _ ?_
      simp only [q_vcs, q_vcc, q_vl, q_vu, ↓reduceIte, Nat.reduceEqDiff, Bool.false_eq_true, q_isc, q_mk, q_msk, zbX1_readProduct, q_pad, q_ent, q_get, q_put, q_nl, q_w, List.cons_append, List.nil_append, q_aks, q_als, Nat.reduceAdd, Nat.reduceLeDiff, Nat.zero_le, true_and, and_true, Option.some.injEq, Sum.inl.injEq, Sum.inr.injEq, true_or, or_true, and_self, q_sw]
      rw [show (150 : Int32) = nI 150 from rfl, nI_leI (by decide) (by omega)]
      refine ⟨fun h => ?_, fun h150 => ⟨_, _, hD2, c_rskipIf l S2 (c := 42) (s := .inl a) hR2 (by decide), fun v S3 h3 => ?_⟩⟩
      · have et : tx T n isb a = a := tx_f (by unfold tb; simp; omega)
        rw [lp_3n (by rw [et]; exact pop_no (hr_ge (by omega) _) (hr_ge (by omega) _) (hr_ge (by omega) _)), et] at hx
        cases hx
        exact ⟨hR2, hc2, hf2⟩
      obtain ⟨hv, h3⟩ := h3
      cases hv
      rw [bI_0]
      by_cases h42 : hr T n (tx T n isb a) = some 42
      · have e1 : pis T n 42 (.inl a) = true := by unfold pis; simp [h42]
        have e2 : psk T n 42 (.inl a) = .inl (tx T n isb a + 1) := by unfold psk; simp [h42]
        rw [e1]
        rw [e2] at h3
        refine ⟨fun h => (by cases h), fun _ => ⟨fun _ => at5 4 S3 (pop_42 h42) h3.1 h3.2.2, fun h => absurd h (by decide)⟩⟩
      · have e1 : pis T n 42 (.inl a) = false := by unfold pis; simp [h42]
        have e2 : psk T n 42 (.inl a) = .inl (tx T n isb a) := by unfold psk; simp [h42]
        rw [e1]
        rw [e2] at h3
        refine ⟨fun _ => ⟨_, _, hD2, c_rskipIf l S3 (c := 47) h3.1 (by decide), fun v S4 h4 => ?_⟩, fun h => absurd rfl h⟩
        obtain ⟨hv, h4⟩ := h4
        cases hv
        rw [bI_0]
        have et := tx_tx T n isb a
        by_cases h47 : hr T n (tx T n isb a) = some 47
        · have e1 : pis T n 47 (.inl (tx T n isb a)) = true := by unfold pis; simp [et, h47]
          have e2 : psk T n 47 (.inl (tx T n isb a)) = .inl (tx T n isb a + 1) := by unfold psk; simp [et, h47]
          rw [e1]
          rw [e2] at h4
          refine ⟨fun h => (by cases h), fun _ => ⟨fun _ => at5 5 S4 (pop_47 h47) h4.1 (h3.2.2.tr h4.2.2), fun h => absurd h (by decide)⟩⟩
        · have e1 : pis T n 47 (.inl (tx T n isb a)) = false := by unfold pis; simp [et, h47]
          have e2 : psk T n 47 (.inl (tx T n isb a)) = .inl (tx T n isb a) := by unfold psk; simp [et, h47]
          rw [e1]
          rw [e2] at h4
          refine ⟨fun _ => ⟨_, _, hD2, c_rskipIf l S4 (c := 37) h4.1 (by decide), fun v S5 h5 => ?_⟩, fun h => absurd rfl h⟩
          obtain ⟨hv, h5⟩ := h5
          cases hv
          rw [bI_0]
          have hf5 := (h3.2.2.tr h4.2.2).tr h5.2.2
          by_cases h37 : hr T n (tx T n isb a) = some 37
          · have e1 : pis T n 37 (.inl (tx T n isb a)) = true := by unfold pis; simp [et, h37]
            have e2 : psk T n 37 (.inl (tx T n isb a)) = .inl (tx T n isb a + 1) := by unfold psk; simp [et, h37]
            rw [e1]
            rw [e2] at h5
            refine ⟨fun h => (by cases h), fun _ => ⟨fun _ => at5 6 S5 (pop_37 h37) h5.1 hf5, fun h => absurd h (by decide)⟩⟩
          · have e1 : pis T n 37 (.inl (tx T n isb a)) = false := by unfold pis; simp [et, h37]
            have e2 : psk T n 37 (.inl (tx T n isb a)) = .inl (tx T n isb a) := by unfold psk; simp [et, h37]
            rw [e1]
            rw [e2] at h5
            refine ⟨fun _ => ⟨fun h => absurd trivial h, fun _ => ?_⟩, fun h => absurd rfl h⟩
            rw [lp_3n (pop_no h42 h47 h37)] at hx
            cases hx
            obtain ⟨c', k1, k2⟩ := lcp_r1 hc2 hf5
            have hge := tx_ge T n isb a
            exact ⟨h5.1, ⟨c', k1, fun b hb => by cases hb; have := k2 a rfl; exact ⟨this.1, Nat.le_trans this.2 hge⟩⟩, hf2.tr (flw_1 hf5)⟩
  refine step 40 [(1, [true, true, true, true, false])] 0 _ _ _ ?_
  simp only [q_vcs, q_vcc, q_vl, q_vu, ↓reduceIte, Nat.reduceEqDiff, Bool.false_eq_true, q_isc, q_mk, q_msk, zbX1_readProduct, q_pad, q_ent, q_get, q_put, q_nl, q_w, List.cons_append, List.nil_append, q_aks, q_als, Nat.reduceAdd, Nat.reduceLeDiff, Nat.zero_le, true_and, and_true, Option.some.injEq, Sum.inl.injEq, Sum.inr.injEq, true_or, or_true, and_self, q_sw]
  cases s with
  | inr q =>
    cases hx
    refine ⟨_, _, (show D4 o < D2 o by unfold D4 D2; omega), ih 0 (by omega) o (.inr q) c (.inr q, c) S rfl ho hR hc, fun S4 h4 => ?_⟩
    obtain ⟨r1, ⟨c4, r4, r5⟩, r3⟩ := h4
    exact hF 0 q S4 rfl r1 ⟨c4, r4⟩ (by omega) r3
  | inl a =>
    have hx : lp T n (f + 1) 2 o a c = some x := hx
    rw [lp_2] at hx
    rcases andT_cases hx with ⟨b, c1, h1, h2⟩ | ⟨q, c1, h1, h2⟩
    · refine ⟨_, _, (show D4 o < D2 o by unfold D4 D2; omega), ih f (by omega) o (.inl a) c (.inl b, c1) S h1 ho hR hc, fun S4 h4 => ?_⟩
      obtain ⟨r1, r2, r3⟩ := h4
      exact hL f (Nat.le_refl _) 0 b c1 S4 h2 r1 r2 (by omega) r3
    · refine ⟨_, _, (show D4 o < D2 o by unfold D4 D2; omega), ih f (by omega) o (.inl a) c (.inr q, c1) S h1 ho hR hc, fun S4 h4 => ?_⟩
      obtain ⟨r1, ⟨c4, r4, r5⟩, r3⟩ := h4
      exact hF 0 q S4 (by rw [h2]) r1 ⟨c4, r4⟩ (by omega) r3
/-! a unit -/
theorem psg_here {T : Nat → Nat} {n a c : Nat} (h : hr T n (tx T n isb a) = some c) : psg T n c (.inl (tx T n isb a)) = .inl (tx T n isb a + 1) := by
  rw [psg_ok (by rw [tx_tx]; exact h), tx_tx]
theorem psg_left {T : Nat → Nat} {n c : Nat} {s : PS} (h : (psg T n c s).isLeft = true) : s.isLeft = true := by
  cases s with
  | inl a => rfl
  | inr q => cases h
theorem lw_bracket {l : Launch} {T : Nat → Nat} {n i : Nat} (f : Nat) (ih : LwC l T n i 0 k_X1_readSum f D0) {o a : Nat} {c : List Tok} {x : PS × List Tok} {S : qSt} (hb : hr T n (tx T n isb a) = some 40) (hx : lp T n (f + 1) 4 o a c = some x) (ho : o ≤ 6) (hR : RD S T n (tx T n isb a) none) (hc : LcP S i (.inl a) c) : q_Met q_mt l (7 + 4 * (6 - o)) k_X1_readBracket 0 [.inr (.inr (12, i)), .inr (.inr (1, 0)), .inl (nI o)] S (fun _ S' => LwQ T n i x S S') := by
  have hn6 := hR.1
  have hge := tx_ge T n isb a
  refine q_meth zoX1_readBracket q_fos (Nat.le_of_ble_eq_true rfl) ?_
  intro AT step
  refine step 20 [] 0 _ _ _ ?_
  simp only [q_vcs, q_vcc, q_vl, q_vu, ↓reduceIte, Nat.reduceEqDiff, Bool.false_eq_true, q_isc, q_mk, q_msk, zbX1_readBracket, q_pad, q_ent, q_get, q_put, q_nl, q_w, List.cons_append, List.nil_append, q_aks, q_als, Nat.reduceAdd, Nat.reduceLeDiff, Nat.zero_le, true_and, and_true, Option.some.injEq, Sum.inl.injEq, Sum.inr.injEq, true_or, or_true, and_self, q_sw]
  rw [show (6 : Int32) = nI 6 from rfl, nI_ltI (by omega) (by decide), nI_1, hR.2.1.2.2.1]
  refine ⟨fun h6 => ?_, fun h6 => ?_⟩
  · rw [lp_4c hb (by omega)] at hx
    refine ⟨_, _, (by omega : 1 < 7 + 4 * (6 - o)), c_rsign l S (c := 40) (s := .inl (tx T n isb a)) hR (by decide), fun S1 h1 => ?_⟩
    rw [psg_here hb] at h1
    have key : ∃ y, lpS T n f 0 (o + 1) (.inl (tx T n isb a + 1)) c = some y ∧ x.1 = psg T n 41 y.1 ∧ (x.1.isLeft = true → x.2 = y.2) := by
      rcases andT_cases hx with ⟨b, c1, h1, h2⟩ | ⟨q, c1, h1, h2⟩
      · refine ⟨_, h1, ?_, fun _ => ?_⟩
        · cases h2; rfl
        · cases h2; rfl
      · exact ⟨_, h1, by rw [h2]; rfl, fun h => by rw [h2]⟩
    obtain ⟨y, hy, e1, e2⟩ := key
    have hc1 : LcP S1 i (.inl (tx T n isb a + 1)) c := by
      obtain ⟨c', k1, k2⟩ := lcp_r1 hc h1.2.2
      refine ⟨c', k1, fun b hb => ?_⟩
      cases hb
      have := k2 a rfl
      exact ⟨this.1, by omega⟩
    refine ⟨_, _, (show D0 (o + 1) < 7 + 4 * (6 - o) by unfold D0; omega), ih (o + 1) _ c y S1 hy (by omega) h1.1 hc1, fun S2 h2 => ?_⟩
    obtain ⟨r1, ⟨c2, r2, r4⟩, r3⟩ := h2
    refine ⟨_, _, (by omega : 1 < 7 + 4 * (6 - o)), c_rsign l S2 (c := 41) r1 (by decide), fun S3 h3 => ?_⟩
    rw [← e1] at h3
    refine ⟨h3.1, ⟨c2, lc_r1 r2 h3.2.2, fun b hb => ?_⟩, ((flw_1 h1.2.2).tr r3).tr (flw_1 h3.2.2)⟩
    have hl : x.1.isLeft = true := by rw [hb]; rfl
    rw [e1] at hb
    obtain ⟨b1, g1, g2, -⟩ := psg_lt hb
    have := r4 b1 g1
    rw [e2 hl]
    exact ⟨this.1, by omega⟩
  · rw [lp_4b hb (by omega)] at hx
    cases hx
    refine ⟨_, _, (by omega : 0 < 7 + 4 * (6 - o)), c_rfail l S (k := 3) (s := .inl (tx T n isb a)) hR (by decide) (by omega), fun S1 h1 => ?_⟩
    obtain ⟨c', k1, k2⟩ := lcp_r1 hc h1.2.2
    exact ⟨h1.1, ⟨c', k1, fun b hb => by cases hb⟩, flw_1 h1.2.2⟩
theorem lw_two {l : Launch} {T : Nat → Nat} {n i : Nat} (hn : n ≤ 150) (f : Nat) (ih : LwC l T n i 0 k_X1_readSum f D0) {o a k : Nat} {c : List Tok} {x : PS × List Tok} {S : qSt} (h4 : ¬ hr T n (tx T n isb a) = some 40) (hd : ¬ tb T n isd (tx T n isb a) = true) (hf : fct T (tx T n isb a) (tx T n isl (tx T n isb a)) = none) (ht : two T (tx T n isb a) (tx T n isl (tx T n isb a)) = some k) (hx : lp T n (f + 1) 4 o a c = some x) (ho : o ≤ 6) (hR : RD S T n (tx T n isl (tx T n isb a)) none) (hw : q_I S 1 0 4 = nI (tx T n isb a)) (hc : LcP S i (.inl a) c) : q_Met q_mt l (7 + 4 * (6 - o)) k_X1_readTwo 0 [.inr (.inr (12, i)), .inr (.inr (1, 0)), .inl (nI o), .inl (nI (1098 + k))] S (fun _ S' => LwQ T n i x S S') := by
  have hn6 := hR.1
  have hge := tx_ge T n isb a
  have hge2 := tx_ge T n isl (tx T n isb a)
  have htw := two_lt ht
  refine q_meth zoX1_readTwo q_fos (Nat.le_of_ble_eq_true rfl) ?_
  intro AT step
  refine step 20 [] 0 _ _ _ ?_
  simp only [q_vcs, q_vcc, q_vl, q_vu, ↓reduceIte, Nat.reduceEqDiff, Bool.false_eq_true, q_isc, q_mk, q_msk, zbX1_readTwo, q_pad, q_ent, q_get, q_put, q_nl, q_w, List.cons_append, List.nil_append, q_aks, q_als, Nat.reduceAdd, Nat.reduceLeDiff, Nat.zero_le, true_and, and_true, Option.some.injEq, Sum.inl.injEq, Sum.inr.injEq, true_or, or_true, and_self, q_sw]
  rw [show (6 : Int32) = nI 6 from rfl, nI_ltI (by omega) (by decide), nI_1, hw]
  refine ⟨fun h6 => ?_, fun h6 => ?_⟩
  · rw [lp_4u h4 hd hf ht (by omega)] at hx
    refine ⟨_, _, (by omega : 1 < 7 + 4 * (6 - o)), c_rsign l S (c := 91) (s := .inl (tx T n isl (tx T n isb a))) hR (by decide), fun S1 h1 => ?_⟩
    have key : ∃ y z, lpS T n f 0 (o + 1) (psg T n 91 (.inl (tx T n isl (tx T n isb a)))) c = some y ∧ lpS T n f 0 (o + 1) (psg T n 44 y.1) y.2 = some z ∧ x.1 = psg T n 93 z.1 ∧ (x.1.isLeft = true → x.2 = z.2 ++ [(k, 0)]) := by
      rcases andT_cases hx with ⟨b1, c1, e1, h2⟩ | ⟨q, c1, e1, h2⟩
      · have e1a : psg T n 91 (.inl (tx T n isl (tx T n isb a))) = .inl b1 := by
          have := congrArg (fun x => x.map Prod.fst) e1
          simpa using this
        have e1b : c = c1 := by
          have := congrArg (fun x => x.map Prod.snd) e1
          simpa using this
        subst e1b
        rw [e1a]
        rcases andT_cases h2 with ⟨b2, c2, e2, h3⟩ | ⟨q, c2, e2, h3⟩
        · rcases andT_cases h3 with ⟨b3, c3, e3, h5⟩ | ⟨q, c3, e3, h5⟩
          · have e3a : psg T n 44 (.inl b2) = .inl b3 := by
              have := congrArg (fun x => x.map Prod.fst) e3
              simpa using this
            have e3b : c2 = c3 := by
              have := congrArg (fun x => x.map Prod.snd) e3
              simpa using this
            subst e3b
            rcases andT_cases h5 with ⟨b4, c4, e4, h7⟩ | ⟨q, c4, e4, h7⟩
            · refine ⟨_, _, e2, (by rw [e3a]; exact e4), ?_, fun _ => ?_⟩
              · cases h7; rfl
              · cases h7; rfl
            · refine ⟨_, _, e2, (by rw [e3a]; exact e4), ?_, fun h => ?_⟩
              · rw [h7]; rfl
              · rw [h7] at h; cases h
          · have e3a : psg T n 44 (.inl b2) = .inr q := by
              have := congrArg (fun x => x.map Prod.fst) e3
              simpa using this
            refine ⟨_, (.inr q, c2), e2, (by rw [e3a]; rfl), ?_, fun h => ?_⟩
            · rw [h5]; rfl
            · rw [h5] at h; cases h
        · refine ⟨_, (.inr q, c2), e2, rfl, ?_, fun h => ?_⟩
          · rw [h3]; rfl
          · rw [h3] at h; cases h
      · have e1a : psg T n 91 (.inl (tx T n isl (tx T n isb a))) = .inr q := by
          have := congrArg (fun x => x.map Prod.fst) e1
          simpa using this
        rw [e1a]
        refine ⟨(.inr q, c), (.inr q, c), rfl, rfl, ?_, fun h => ?_⟩
        · rw [h2]; rfl
        · rw [h2] at h; cases h
    obtain ⟨y, z, hy, hz, e1, e2⟩ := key
    have hc1 : LcP S1 i (psg T n 91 (.inl (tx T n isl (tx T n isb a)))) c := by
      obtain ⟨c', k1, k2⟩ := lcp_r1 hc h1.2.2
      refine ⟨c', k1, fun b hb => ?_⟩
      obtain ⟨b1, g1, g2, -⟩ := psg_lt hb
      cases g1
      have := k2 a rfl
      exact ⟨this.1, by omega⟩
    refine ⟨_, _, (show D0 (o + 1) < 7 + 4 * (6 - o) by unfold D0; omega), ih (o + 1) _ c y S1 hy (by omega) h1.1 hc1, fun S2 h2 => ?_⟩
    obtain ⟨r1, r2, r3⟩ := h2
    refine ⟨_, _, (by omega : 1 < 7 + 4 * (6 - o)), c_rsign l S2 (c := 44) r1 (by decide), fun S3 h3 => ?_⟩
    have hc3 : LcP S3 i (psg T n 44 y.1) y.2 := by
      obtain ⟨c', k1, k2⟩ := lcp_r1 r2 h3.2.2
      refine ⟨c', k1, fun b hb => ?_⟩
      obtain ⟨b1, g1, g2, -⟩ := psg_lt hb
      have := k2 b1 g1
      exact ⟨this.1, by omega⟩
    refine ⟨_, _, (show D0 (o + 1) < 7 + 4 * (6 - o) by unfold D0; omega), ih (o + 1) _ y.2 z S3 hz (by omega) h3.1 hc3, fun S4 h4 => ?_⟩
    obtain ⟨t1, t2, t3⟩ := h4
    refine ⟨_, _, (by omega : 1 < 7 + 4 * (6 - o)), c_rsign l S4 (c := 93) t1 (by decide), fun S5 h5 => ?_⟩
    rw [← e1] at h5
    obtain ⟨c5, u1, u2⟩ := lcp_r1 t2 h5.2.2
    refine ⟨_, _, (by omega : 0 < 7 + 4 * (6 - o)), c_lwrite l S5 (nI (1098 + k)) u1, fun S6 h6 => ?_⟩
    obtain ⟨⟨c6, v1, v2⟩, v3⟩ := h6
    refine ⟨rs_lw h5.1 v3, ⟨c6, v1, fun b hb => ?_⟩, ((((flw_1 h1.2.2).tr r3).tr (flw_1 h3.2.2)).tr t3).tr ((flw_1 h5.2.2).tr (flw_2 v3))⟩
    have hl : x.1.isLeft = true := by rw [hb]; rfl
    have hb2 := hb
    rw [e1] at hb
    obtain ⟨b1, g1, g2, -⟩ := psg_lt hb
    obtain ⟨w1, w2⟩ := u2 b1 g1
    have hnb : b ≤ n := by
      have := h5.1
      rw [hb2] at this
      exact (show RD S5 T n b none from this).1.2.1
    have ekk : tkI (k, 0) = nI (1098 + k) := by
      rcases htw.2 with rfl | rfl <;> rfl
    rw [e2 hl, v2 (by rw [w1]; simp; omega), w1]
    simp [ekk]
    omega
  · rw [lp_4t h4 hd hf ht (by omega)] at hx
    cases hx
    refine ⟨_, _, (by omega : 0 < 7 + 4 * (6 - o)), c_rfail l S (k := 3) (s := .inl (tx T n isl (tx T n isb a))) hR (by decide) (by omega), fun S1 h1 => ?_⟩
    obtain ⟨c', k1, k2⟩ := lcp_r1 hc h1.2.2
    exact ⟨h1.1, ⟨c', k1, fun b hb => by cases hb⟩, flw_1 h1.2.2⟩
