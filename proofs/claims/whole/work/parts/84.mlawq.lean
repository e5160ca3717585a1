/-! the reference: sums, products -/
set_option maxHeartbeats 2000000 in
theorem lm_sum {l : Launch} {T : Nat → Nat} {n : Nat} (hn : n ≤ 150) (f : Nat) (ih : ∀ g, g ≤ f → LmC l T n 2 k_X11_product g E2) : LmC l T n 0 k_X11_sum (f + 1) E0 := by
  intro o s c x S hx ho hR hc hop
  have hD2 : 2 < E0 o := by unfold E0; omega
  have hDP : E2 o < E0 o := by unfold E2 E0; omega
  have hD0 : 0 < E0 o := by unfold E0; omega
  refine q_meth zoX11_sum q_fos (Nat.le_of_ble_eq_true rfl) ?_
  intro AT step
  have hF : ∀ (q : Nat × Nat) (S2 : qSt), x.1 = .inr q → MS S2 T n (.inr q) → MlQ S S2 → AT 1 [some (.inr (.inr (40, 0))), none] [] S2 := by
    intro q S2 hq hR2 hf2
    refine step 40 [(1, [true, false]), (5, [true, true])] 1 _ _ _ ?_
    simp only [q_vcs, q_vcc, q_vl, q_vu, ↓reduceIte, Nat.reduceEqDiff, Bool.false_eq_true, q_isc, q_mk, q_msk, zbX11_sum, q_pad, q_ent, q_get, q_put, q_nl, q_w, List.cons_append, List.nil_append, q_aks, q_als, Nat.reduceAdd, Nat.reduceLeDiff, Nat.zero_le, true_and, and_true, Option.some.injEq, Sum.inl.injEq, Sum.inr.injEq, true_or, or_true, and_self, q_sw]
    rw [ms_0 hR2]
    refine ⟨fun _ => ?_, fun h => (by cases h)⟩
    rw [LmQ, hq]
    exact ⟨hR2, (fun b hb => by cases hb), (fun h => by cases h), hf2⟩
  have hL : ∀ (g : Nat), g ≤ f → ∀ (a : Nat) (c : List Tok) (S2 : qSt), lp T n g 1 o a c = some x → MD S2 T n a none → LmP S2 (.inl a) c → q_I S2 40 0 8 = nI o → MlQ S S2 → AT 1 [some (.inr (.inr (40, 0))), none] [] S2 := by
    intro g
    induction g with
    | zero => intro _ a c S2 hx; cases hx
    | succ g ihg =>
      intro hg a c S2 hx hR2 hc2 ho2 hf2
      have hn2 := hR2.1
      have hge := tx_ge T n isb a
      have at5 : ∀ (kk : Nat) (S3 : qSt), sop T n (tx T n isb a) = some kk → MD S3 T n (tx T n isb a + 1) none → ME S2 S3 → AT 5 [some (.inr (.inr (40, 0))), some (.inl (nI kk))] [] S3 := by
        intro kk S3 hs hR3 hf3
        have hlt := (sop_lt hs)
        rw [lp_1s hs] at hx
        have hc3 : LmP S3 (.inl (tx T n isb a + 1)) c := fun b hb => by
          cases hb
          obtain ⟨h1, h2, h3⟩ := lmp_e hc2 hf3 a rfl
          exact ⟨h1, by omega, h3⟩
        have key : ∃ y, lp T n g 2 o (tx T n isb a + 1) c = some y ∧ (∀ b, y.1 = .inl b → lp T n g 1 o b (y.2 ++ [(kk, 0)]) = some x ∧ y.2.length < b) ∧ (∀ q, y.1 = .inr q → x.1 = .inr q) := by
          rcases andT_cases hx with ⟨b, c1, h1, h2⟩ | ⟨q, c1, h1, h2⟩
          · refine ⟨_, h1, fun b' hb' => ?_, fun q hq => by cases hq⟩
            cases hb'
            have hl := lp_len T n g 2 o _ c b c1 h1 (by omega)
            have h5 := hl.2.2.2 (by decide) (by decide)
            have := (hc2 a rfl).2.1
            exact ⟨h2, by show c1.length < b; omega⟩
          · refine ⟨_, h1, fun b' hb' => (by cases hb'), fun q' hq => ?_⟩
            cases hq
            rw [h2]
        obtain ⟨y, hy, hy1, hy2⟩ := key
        refine step 40 [(1, [true, false])] 5 _ _ _ ?_
        simp only [q_vcs, q_vcc, q_vl, q_vu, ↓reduceIte, Nat.reduceEqDiff, Bool.false_eq_true, q_isc, q_mk, q_msk, zbX11_sum, q_pad, q_ent, q_get, q_put, q_nl, q_w, List.cons_append, List.nil_append, q_aks, q_als, Nat.reduceAdd, Nat.reduceLeDiff, Nat.zero_le, true_and, and_true, Option.some.injEq, Sum.inl.injEq, Sum.inr.injEq, true_or, or_true, and_self, q_sw]
        refine ⟨_, _, hDP, ih g (by omega) o (.inl (tx T n isb a + 1)) c y S3 hy ho hR3 hc3 (fun _ => by rw [hf3.1 8 (by decide)]; exact ho2), fun S4 h4 => ?_⟩
        obtain ⟨r1, r2, r3, r4⟩ := h4
        have hf4 := (hf2.tr (MlQ.e hf3)).tr r4
        have hpre : y.1.isLeft = true → q_I S4 40 0 20 = nI y.2.length ∧ y.2.length < 160 := fun hl => by
          cases hy3 : y.1 with
          | inr q => rw [hy3] at hl; cases hl
          | inl b =>
            have hb := r2 b hy3
            rw [hy3] at r1
            have := (show MD S4 T n b none from r1).1
            exact ⟨hb.1, by omega⟩
        refine ⟨_, _, hD0, c_mnotes l S4 (m := y.2.length) (a := kk) (b := 0) r1 hpre, fun S5 h5 => ?_⟩
        obtain ⟨t1, t2, t3⟩ := h5
        have r5 : MS S5 T n y.1 := ms_w r1 (fun j hj => t2 j (by omega)) (t3 41 0 (by omega)).1
        have hf5 : MlQ S S5 := hf4.tr ⟨fun j _ _ h => t2 j h, t3⟩
        cases hy3 : y.1 with
        | inr q =>
          rw [hy3] at r5
          exact hF q S5 (hy2 q hy3) r5 hf5
        | inl b =>
          obtain ⟨p1, p2⟩ := hy1 b hy3
          rw [hy3] at r5 t1 r2
          refine ihg (by omega) b (y.2 ++ [(kk, 0)]) S5 p1 r5 (lmp_tok (t := (kk, 0)) (fun b' hb' => ?_) t1) (by rw [t2 8 (by decide)]; exact r3 (isL hy3)) hf5
          cases hb'
          have := r2 b rfl
          exact ⟨this.1, p2, this.2.2⟩
      refine step 40 [(1, [true, false]), (5, [true, true])] 1 _ _ _ ?_
      simp only [q_vcs, q_vcc, q_vl, q_vu, ↓reduceIte, Nat.reduceEqDiff, Bool.false_eq_true, q_isc, q_mk, q_msk, zbX11_sum, q_pad, q_ent, q_get, q_put, q_nl, q_w, List.cons_append, List.nil_append, q_aks, q_als, Nat.reduceAdd, Nat.reduceLeDiff, Nat.zero_le, true_and, and_true, Option.some.injEq, Sum.inl.injEq, Sum.inr.injEq, true_or, or_true, and_self, q_sw]
      rw [mek_0 hR2]
      refine ⟨fun h => absurd rfl h, fun _ => ⟨_, _, hD2, c_mtakesSign l S2 (c := 43) (s := .inl a) hR2 (by decide), fun v S3 h3 => ?_⟩⟩
      obtain ⟨hv, h3⟩ := h3
      cases hv
      rw [bI_0]
      by_cases h43 : hr T n (tx T n isb a) = some 43
      · have e1 : pis T n 43 (.inl a) = true := by unfold pis; simp [h43]
        have e2 : psk T n 43 (.inl a) = .inl (tx T n isb a + 1) := by unfold psk; simp [h43]
        rw [e1]
        rw [e2] at h3
        refine ⟨fun h => (by cases h), fun _ => ⟨fun _ => at5 2 S3 (sop_43 h43) h3.1 h3.2, fun h => absurd h (by decide)⟩⟩
      · have e1 : pis T n 43 (.inl a) = false := by unfold pis; simp [h43]
        have e2 : psk T n 43 (.inl a) = .inl (tx T n isb a) := by unfold psk; simp [h43]
        rw [e1]
        rw [e2] at h3
        refine ⟨fun _ => ⟨_, _, hD2, c_mtakesSign l S3 (c := 45) h3.1 (by decide), fun v S4 h4 => ?_⟩, fun h => absurd rfl h⟩
        obtain ⟨hv, h4⟩ := h4
        cases hv
        rw [bI_0]
        have et := tx_tx T n isb a
        have hE4 := (h3.2).tr h4.2
        by_cases h459 : hr T n (tx T n isb a) = some 45
        · have e1 : pis T n 45 (.inl (tx T n isb a)) = true := by unfold pis; simp [et, h459]
          have e2 : psk T n 45 (.inl (tx T n isb a)) = .inl (tx T n isb a + 1) := by unfold psk; simp [et, h459]
          rw [e1]
          rw [e2] at h4
          refine ⟨fun h => (by cases h), fun _ => ⟨fun _ => at5 3 S4 (sop_45 h459) h4.1 hE4, fun h => absurd h (by decide)⟩⟩
        · have e1 : pis T n 45 (.inl (tx T n isb a)) = false := by unfold pis; simp [et, h459]
          have e2 : psk T n 45 (.inl (tx T n isb a)) = .inl (tx T n isb a) := by unfold psk; simp [et, h459]
          rw [e1]
          rw [e2] at h4
          refine ⟨fun _ => ⟨fun h => absurd trivial h, fun _ => ?_⟩, fun h => absurd rfl h⟩
          rw [lp_1n (sop_no h43 h459)] at hx
          cases hx
          refine ⟨h4.1, fun b hb => ?_, fun _ => by rw [hE4.1 8 (by decide)]; exact ho2, hf2.tr (MlQ.e hE4)⟩
          cases hb
          have := lmp_e hc2 hE4 a rfl
          exact ⟨this.1, Nat.le_trans this.2.1 hge, this.2.2⟩
  refine step 40 [(1, [true, false])] 0 _ _ _ ?_
  simp only [q_vcs, q_vcc, q_vl, q_vu, ↓reduceIte, Nat.reduceEqDiff, Bool.false_eq_true, q_isc, q_mk, q_msk, zbX11_sum, q_pad, q_ent, q_get, q_put, q_nl, q_w, List.cons_append, List.nil_append, q_aks, q_als, Nat.reduceAdd, Nat.reduceLeDiff, Nat.zero_le, true_and, and_true, Option.some.injEq, Sum.inl.injEq, Sum.inr.injEq, true_or, or_true, and_self, q_sw]
  cases s with
  | inr q =>
    cases hx
    refine ⟨_, _, hDP, ih 0 (by omega) o (.inr q) c (.inr q, c) S rfl ho hR hc hop, fun S4 h4 => ?_⟩
    obtain ⟨r1, r2, r3, r4⟩ := h4
    exact hF q S4 rfl r1 r4
  | inl a =>
    have hx : lp T n (f + 1) 0 o a c = some x := hx
    rw [lp_0] at hx
    rcases andT_cases hx with ⟨b, c1, h1, h2⟩ | ⟨q, c1, h1, h2⟩
    · refine ⟨_, _, hDP, ih f (by omega) o (.inl a) c (.inl b, c1) S h1 ho hR hc hop, fun S4 h4 => ?_⟩
      obtain ⟨r1, r2, r3, r4⟩ := h4
      exact hL f (Nat.le_refl _) b c1 S4 h2 r1 r2 (r3 rfl) r4
    · refine ⟨_, _, hDP, ih f (by omega) o (.inl a) c (.inr q, c1) S h1 ho hR hc hop, fun S4 h4 => ?_⟩
      obtain ⟨r1, r2, r3, r4⟩ := h4
      exact hF q S4 (by rw [h2]) r1 r4
set_option maxHeartbeats 2000000 in
theorem lm_prod {l : Launch} {T : Nat → Nat} {n : Nat} (hn : n ≤ 150) (f : Nat) (ih : ∀ g, g ≤ f → LmC l T n 4 k_X11_one g E4) : LmC l T n 2 k_X11_product (f + 1) E2 := by
  intro o s c x S hx ho hR hc hop
  have hD2 : 2 < E2 o := by unfold E2; omega
  have hDP : E4 o < E2 o := by unfold E4 E2; omega
  have hD0 : 0 < E2 o := by unfold E2; omega
  refine q_meth zoX11_product q_fos (Nat.le_of_ble_eq_true rfl) ?_
  intro AT step
  have hF : ∀ (q : Nat × Nat) (S2 : qSt), x.1 = .inr q → MS S2 T n (.inr q) → MlQ S S2 → AT 1 [some (.inr (.inr (40, 0))), none] [] S2 := by
    intro q S2 hq hR2 hf2
    refine step 40 [(1, [true, false]), (6, [true, true])] 1 _ _ _ ?_
    simp only [q_vcs, q_vcc, q_vl, q_vu, ↓reduceIte, Nat.reduceEqDiff, Bool.false_eq_true, q_isc, q_mk, q_msk, zbX11_product, q_pad, q_ent, q_get, q_put, q_nl, q_w, List.cons_append, List.nil_append, q_aks, q_als, Nat.reduceAdd, Nat.reduceLeDiff, Nat.zero_le, true_and, and_true, Option.some.injEq, Sum.inl.injEq, Sum.inr.injEq, true_or, or_true, and_self, q_sw]
    rw [ms_0 hR2]
    refine ⟨fun _ => ?_, fun h => (by cases h)⟩
    rw [LmQ, hq]
    exact ⟨hR2, (fun b hb => by cases hb), (fun h => by cases h), hf2⟩
  have hL : ∀ (g : Nat), g ≤ f → ∀ (a : Nat) (c : List Tok) (S2 : qSt), lp T n g 3 o a c = some x → MD S2 T n a none → LmP S2 (.inl a) c → q_I S2 40 0 8 = nI o → MlQ S S2 → AT 1 [some (.inr (.inr (40, 0))), none] [] S2 := by
    intro g
    induction g with
    | zero => intro _ a c S2 hx; cases hx
    | succ g ihg =>
      intro hg a c S2 hx hR2 hc2 ho2 hf2
      have hn2 := hR2.1
      have hge := tx_ge T n isb a
      have at5 : ∀ (kk : Nat) (S3 : qSt), pop T n (tx T n isb a) = some kk → MD S3 T n (tx T n isb a + 1) none → ME S2 S3 → AT 6 [some (.inr (.inr (40, 0))), some (.inl (nI kk))] [] S3 := by
        intro kk S3 hs hR3 hf3
        have hlt := (pop_lt hs)
        rw [lp_3s hs] at hx
        have hc3 : LmP S3 (.inl (tx T n isb a + 1)) c := fun b hb => by
          cases hb
          obtain ⟨h1, h2, h3⟩ := lmp_e hc2 hf3 a rfl
          exact ⟨h1, by omega, h3⟩
        have key : ∃ y, lp T n g 4 o (tx T n isb a + 1) c = some y ∧ (∀ b, y.1 = .inl b → lp T n g 3 o b (y.2 ++ [(kk, 0)]) = some x ∧ y.2.length < b) ∧ (∀ q, y.1 = .inr q → x.1 = .inr q) := by
          rcases andT_cases hx with ⟨b, c1, h1, h2⟩ | ⟨q, c1, h1, h2⟩
          · refine ⟨_, h1, fun b' hb' => ?_, fun q hq => by cases hq⟩
            cases hb'
            have hl := lp_len T n g 4 o _ c b c1 h1 (by omega)
            have h5 := hl.2.2.2 (by decide) (by decide)
            have := (hc2 a rfl).2.1
            exact ⟨h2, by show c1.length < b; omega⟩
          · refine ⟨_, h1, fun b' hb' => (by cases hb'), fun q' hq => ?_⟩
            cases hq
            rw [h2]
        obtain ⟨y, hy, hy1, hy2⟩ := key
        refine step 40 [(1, [true, false])] 6 _ _ _ ?_
        simp only [q_vcs, q_vcc, q_vl, q_vu, ↓reduceIte, Nat.reduceEqDiff, Bool.false_eq_true, q_isc, q_mk, q_msk, zbX11_product, q_pad, q_ent, q_get, q_put, q_nl, q_w, List.cons_append, List.nil_append, q_aks, q_als, Nat.reduceAdd, Nat.reduceLeDiff, Nat.zero_le, true_and, and_true, Option.some.injEq, Sum.inl.injEq, Sum.inr.injEq, true_or, or_true, and_self, q_sw]
        refine ⟨_, _, hDP, ih g (by omega) o (.inl (tx T n isb a + 1)) c y S3 hy ho hR3 hc3 (fun _ => by rw [hf3.1 8 (by decide)]; exact ho2), fun S4 h4 => ?_⟩
        obtain ⟨r1, r2, r3, r4⟩ := h4
        have hf4 := (hf2.tr (MlQ.e hf3)).tr r4
        have hpre : y.1.isLeft = true → q_I S4 40 0 20 = nI y.2.length ∧ y.2.length < 160 := fun hl => by
          cases hy3 : y.1 with
          | inr q => rw [hy3] at hl; cases hl
          | inl b =>
            have hb := r2 b hy3
            rw [hy3] at r1
            have := (show MD S4 T n b none from r1).1
            exact ⟨hb.1, by omega⟩
        refine ⟨_, _, hD0, c_mnotes l S4 (m := y.2.length) (a := kk) (b := 0) r1 hpre, fun S5 h5 => ?_⟩
        obtain ⟨t1, t2, t3⟩ := h5
        have r5 : MS S5 T n y.1 := ms_w r1 (fun j hj => t2 j (by omega)) (t3 41 0 (by omega)).1
        have hf5 : MlQ S S5 := hf4.tr ⟨fun j _ _ h => t2 j h, t3⟩
        cases hy3 : y.1 with
        | inr q =>
          rw [hy3] at r5
          exact hF q S5 (hy2 q hy3) r5 hf5
        | inl b =>
          obtain ⟨p1, p2⟩ := hy1 b hy3
          rw [hy3] at r5 t1 r2
          refine ihg (by omega) b (y.2 ++ [(kk, 0)]) S5 p1 r5 (lmp_tok (t := (kk, 0)) (fun b' hb' => ?_) t1) (by rw [t2 8 (by decide)]; exact r3 (isL hy3)) hf5
          cases hb'
          have := r2 b rfl
          exact ⟨this.1, p2, this.2.2⟩
      refine step 40 [(1, [true, false]), (6, [true, true])] 1 _ _ _ ?_
      simp only [q_vcs, q_vcc, q_vl, q_vu, ↓reduceIte, Nat.reduceEqDiff, Bool.false_eq_true, q_isc, q_mk, q_msk, zbX11_product, q_pad, q_ent, q_get, q_put, q_nl, q_w, List.cons_append, List.nil_append, q_aks, q_als, Nat.reduceAdd, Nat.reduceLeDiff, Nat.zero_le, true_and, and_true, Option.some.injEq, Sum.inl.injEq, Sum.inr.injEq, true_or, or_true, and_self, q_sw]
      rw [mek_0 hR2]
      refine ⟨fun h => absurd rfl h, fun _ => ⟨_, _, hD2, c_mtakesSign l S2 (c := 42) (s := .inl a) hR2 (by decide), fun v S3 h3 => ?_⟩⟩
      obtain ⟨hv, h3⟩ := h3
      cases hv
      rw [bI_0]
      by_cases h42 : hr T n (tx T n isb a) = some 42
      · have e1 : pis T n 42 (.inl a) = true := by unfold pis; simp [h42]
        have e2 : psk T n 42 (.inl a) = .inl (tx T n isb a + 1) := by unfold psk; simp [h42]
        rw [e1]
        rw [e2] at h3
        refine ⟨fun h => (by cases h), fun _ => ⟨fun _ => at5 4 S3 (pop_42 h42) h3.1 h3.2, fun h => absurd h (by decide)⟩⟩
      · have e1 : pis T n 42 (.inl a) = false := by unfold pis; simp [h42]
        have e2 : psk T n 42 (.inl a) = .inl (tx T n isb a) := by unfold psk; simp [h42]
        rw [e1]
        rw [e2] at h3
        refine ⟨fun _ => ⟨_, _, hD2, c_mtakesSign l S3 (c := 47) h3.1 (by decide), fun v S4 h4 => ?_⟩, fun h => absurd rfl h⟩
        obtain ⟨hv, h4⟩ := h4
        cases hv
        rw [bI_0]
        have et := tx_tx T n isb a
        have hE4 := (h3.2).tr h4.2
        by_cases h479 : hr T n (tx T n isb a) = some 47
        · have e1 : pis T n 47 (.inl (tx T n isb a)) = true := by unfold pis; simp [et, h479]
          have e2 : psk T n 47 (.inl (tx T n isb a)) = .inl (tx T n isb a + 1) := by unfold psk; simp [et, h479]
          rw [e1]
          rw [e2] at h4
          refine ⟨fun h => (by cases h), fun _ => ⟨fun _ => at5 5 S4 (pop_47 h479) h4.1 hE4, fun h => absurd h (by decide)⟩⟩
        · have e1 : pis T n 47 (.inl (tx T n isb a)) = false := by unfold pis; simp [et, h479]
          have e2 : psk T n 47 (.inl (tx T n isb a)) = .inl (tx T n isb a) := by unfold psk; simp [et, h479]
          rw [e1]
          rw [e2] at h4
          refine ⟨fun _ => ⟨_, _, hD2, c_mtakesSign l S4 (c := 37) h4.1 (by decide), fun v S5 h5 => ?_⟩, fun h => absurd rfl h⟩
          obtain ⟨hv, h5⟩ := h5
          cases hv
          rw [bI_0]
          have hE5 := (hE4).tr h5.2
          by_cases h379 : hr T n (tx T n isb a) = some 37
          · have e1 : pis T n 37 (.inl (tx T n isb a)) = true := by unfold pis; simp [et, h379]
            have e2 : psk T n 37 (.inl (tx T n isb a)) = .inl (tx T n isb a + 1) := by unfold psk; simp [et, h379]
            rw [e1]
            rw [e2] at h5
            refine ⟨fun h => (by cases h), fun _ => ⟨fun _ => at5 6 S5 (pop_37 h379) h5.1 hE5, fun h => absurd h (by decide)⟩⟩
          · have e1 : pis T n 37 (.inl (tx T n isb a)) = false := by unfold pis; simp [et, h379]
            have e2 : psk T n 37 (.inl (tx T n isb a)) = .inl (tx T n isb a) := by unfold psk; simp [et, h379]
            rw [e1]
            rw [e2] at h5
            refine ⟨fun _ => ⟨fun h => absurd trivial h, fun _ => ?_⟩, fun h => absurd rfl h⟩
            rw [lp_3n (pop_no h42 h479 h379)] at hx
            cases hx
            refine ⟨h5.1, fun b hb => ?_, fun _ => by rw [hE5.1 8 (by decide)]; exact ho2, hf2.tr (MlQ.e hE5)⟩
            cases hb
            have := lmp_e hc2 hE5 a rfl
            exact ⟨this.1, Nat.le_trans this.2.1 hge, this.2.2⟩
  refine step 40 [(1, [true, false])] 0 _ _ _ ?_
  simp only [q_vcs, q_vcc, q_vl, q_vu, ↓reduceIte, Nat.reduceEqDiff, Bool.false_eq_true, q_isc, q_mk, q_msk, zbX11_product, q_pad, q_ent, q_get, q_put, q_nl, q_w, List.cons_append, List.nil_append, q_aks, q_als, Nat.reduceAdd, Nat.reduceLeDiff, Nat.zero_le, true_and, and_true, Option.some.injEq, Sum.inl.injEq, Sum.inr.injEq, true_or, or_true, and_self, q_sw]
  cases s with
  | inr q =>
    cases hx
    refine ⟨_, _, hDP, ih 0 (by omega) o (.inr q) c (.inr q, c) S rfl ho hR hc hop, fun S4 h4 => ?_⟩
    obtain ⟨r1, r2, r3, r4⟩ := h4
    exact hF q S4 rfl r1 r4
  | inl a =>
    have hx : lp T n (f + 1) 2 o a c = some x := hx
    rw [lp_2] at hx
    rcases andT_cases hx with ⟨b, c1, h1, h2⟩ | ⟨q, c1, h1, h2⟩
    · refine ⟨_, _, hDP, ih f (by omega) o (.inl a) c (.inl b, c1) S h1 ho hR hc hop, fun S4 h4 => ?_⟩
      obtain ⟨r1, r2, r3, r4⟩ := h4
      exact hL f (Nat.le_refl _) b c1 S4 h2 r1 r2 (r3 rfl) r4
    · refine ⟨_, _, hDP, ih f (by omega) o (.inl a) c (.inr q, c1) S h1 ho hR hc hop, fun S4 h4 => ?_⟩
      obtain ⟨r1, r2, r3, r4⟩ := h4
      exact hF q S4 (by rw [h2]) r1 r4
