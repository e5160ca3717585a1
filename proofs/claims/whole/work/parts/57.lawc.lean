/-! Law: reading its text -/
def pis (T : Nat → Nat) (n c : Nat) : PS → Bool
  | .inl a => decide (hr T n (tx T n isb a) = some c)
  | .inr _ => false
def psk (T : Nat → Nat) (n c : Nat) : PS → PS
  | .inl a => .inl (if hr T n (tx T n isb a) = some c then tx T n isb a + 1 else tx T n isb a)
  | .inr q => .inr q
theorem c_rskipIf (l : Launch) (S : qSt) {T : Nat → Nat} {n c : Nat} {s : PS} (hR : RS S T n s) (hc : c < 256) : q_Met q_mt l 2 k_X4_skipIf 1 [.inr (.inr (1, 0)), .inl (nI c)] S (fun r S' => r = some (.inl (bI (pis T n c s))) ∧ RQ S S' T n (psk T n c s)) := by
  cases s with
  | inl a =>
    refine q_Met.post (c_skipIf l S hR hc) fun r S' h1 => ?_
    by_cases h : hr T n (tx T n isb a) = some c
    · have e : skf T n a none c = true := by unfold skf; simp [h]
      rw [e] at h1
      unfold pis psk
      simp only [h, decide_true, if_true]
      exact h1
    · have e : skf T n a none c = false := by unfold skf; simp [h]
      rw [e] at h1
      unfold pis psk
      simp only [h, decide_false, if_false]
      exact h1
  | inr q =>
    obtain ⟨a, hR⟩ := hR
    refine q_Met.post (c_skipIf l S hR hc) fun r S' h1 => ?_
    have e : skf T n a (some q) c = false := rfl
    rw [e] at h1
    exact ⟨h1.1, ⟨_, h1.2.1⟩, h1.2.2⟩
def LcP (S : qSt) (i : Nat) (s : PS) (c : List Tok) : Prop := ∃ c', LC S i c' ∧ ∀ b, s = .inl b → c' = c.map tkI ∧ c.length ≤ b
def lpS (T : Nat → Nat) (n f m o : Nat) (s : PS) (c : List Tok) : LR2 := match s with
  | .inl a => lp T n f m o a c
  | .inr q => some (.inr q, c)
def LwQ (T : Nat → Nat) (n i : Nat) (x : PS × List Tok) (S S' : qSt) : Prop := RS S' T n x.1 ∧ LcP S' i x.1 x.2 ∧ fr (Flw i) S S'
def LwC (l : Launch) (T : Nat → Nat) (n i m kk f : Nat) (D : Nat → Nat) : Prop := ∀ (o : Nat) (s : PS) (c : List Tok) (x : PS × List Tok) (S : qSt), lpS T n f m o s c = some x → o ≤ 6 → RS S T n s → LcP S i s c → q_Met q_mt l (D o) kk 0 [.inr (.inr (12, i)), .inr (.inr (1, 0)), .inl (nI o)] S (fun _ S' => LwQ T n i x S S')
def D4 (o : Nat) : Nat := 8 + 4 * (6 - o)
def D2 (o : Nat) : Nat := 9 + 4 * (6 - o)
def D0 (o : Nat) : Nat := 10 + 4 * (6 - o)
theorem lcp_r1 {S S' : qSt} {i : Nat} {s : PS} {c : List Tok} (h : LcP S i s c) (hf : fr Fr1 S S') : LcP S' i s c := by
  obtain ⟨c', h1, h2⟩ := h
  exact ⟨c', lc_r1 h1 hf, h2⟩
theorem flw_1 {S S' : qSt} {i : Nat} (h : fr Fr1 S S') : fr (Flw i) S S' := h.mn fun f j h => Or.inl h
theorem rs_lw {S S' : qSt} {T : Nat → Nat} {n i : Nat} {s : PS} (h : RS S T n s) (hf : fr (fun f j => j = i ∧ (f = 12 ∨ f = 13)) S S') : RS S' T n s := h.fr hf (by omega) (by omega)
theorem flw_2 {S S' : qSt} {i : Nat} (h : fr (fun f j => j = i ∧ (f = 12 ∨ f = 13)) S S') : fr (Flw i) S S' := h.mn fun f j h => Or.inr h
theorem lcp_tok {S S' : qSt} {T : Nat → Nat} {n i : Nat} {s : PS} {c : List Tok} (t : Tok) (hn : n ≤ 150) (hR : RS S T n s) (h : ∃ c', LC S i c' ∧ ∀ b, s = .inl b → c' = c.map tkI ∧ c.length < b) (hw : ∀ c', LC S i c' → ∃ c'', LC S' i c'' ∧ (c'.length < 160 → c'' = c' ++ [tkI t])) : LcP S' i s (c ++ [t]) := by
  obtain ⟨c', h1, h2⟩ := h
  obtain ⟨c2, h3, h4⟩ := hw c' h1
  refine ⟨c2, h3, fun b hb => ?_⟩
  obtain ⟨e, hl⟩ := h2 b hb
  subst hb
  have := (show RD S T n b none from hR).1
  rw [h4 (by rw [e]; simp; omega), e]
  simp
  omega
theorem sop_43 {T : Nat → Nat} {n b : Nat} (h : hr T n b = some 43) : sop T n b = some 2 := by unfold sop; rw [if_pos h]
theorem sop_45 {T : Nat → Nat} {n b : Nat} (h : hr T n b = some 45) : sop T n b = some 3 := by unfold sop; rw [if_neg (by rw [h]; decide), if_pos h]
theorem sop_no {T : Nat → Nat} {n b : Nat} (h1 : ¬ hr T n b = some 43) (h2 : ¬ hr T n b = some 45) : sop T n b = none := by unfold sop; rw [if_neg h1, if_neg h2]
theorem pop_42 {T : Nat → Nat} {n b : Nat} (h : hr T n b = some 42) : pop T n b = some 4 := by unfold pop; rw [if_pos h]
theorem pop_47 {T : Nat → Nat} {n b : Nat} (h : hr T n b = some 47) : pop T n b = some 5 := by unfold pop; rw [if_neg (by rw [h]; decide), if_pos h]
theorem pop_37 {T : Nat → Nat} {n b : Nat} (h : hr T n b = some 37) : pop T n b = some 6 := by unfold pop; rw [if_neg (by rw [h]; decide), if_neg (by rw [h]; decide), if_pos h]
theorem pop_no {T : Nat → Nat} {n b : Nat} (h1 : ¬ hr T n b = some 42) (h2 : ¬ hr T n b = some 47) (h3 : ¬ hr T n b = some 37) : pop T n b = none := by unfold pop; rw [if_neg h1, if_neg h2, if_neg h3]
theorem hr_ge {T : Nat → Nat} {n a : Nat} (h : n ≤ a) (c : Nat) : ¬ hr T n a = some c := fun q => by have := (hr_some q).1; omega
set_option maxHeartbeats 2000000 in
theorem lw_sum {l : Launch} {T : Nat → Nat} {n i : Nat} (hn : n ≤ 150) (f : Nat) (ih : ∀ g, g ≤ f → LwC l T n i 2 k_X1_readProduct g D2) : LwC l T n i 0 k_X1_readSum (f + 1) D0 := by
  intro o s c x S hx ho hR hc
  have hD2 : 2 < D0 o := by unfold D0; omega
  refine q_meth zoX1_readSum q_fos (Nat.le_of_ble_eq_true rfl) ?_
  intro AT step
  have hF : ∀ (k : Nat) (q : Nat × Nat) (S2 : qSt), x.1 = .inr q → RS S2 T n (.inr q) → (∃ c', LC S2 i c') → k ≤ 200 → fr (Flw i) S S2 → AT 1 [some (.inr (.inr (12, i))), some (.inr (.inr (1, 0))), some (.inl (nI o)), some (.inl (nI k)), none] [] S2 := by
    intro k q S2 hq hR2 hc2 hk hf2
    obtain ⟨c2, hc2⟩ := hc2
    refine step 40 [(1, [true, true, true, true, false]), (5, [true, true, true, true, true])] 1 _ _ _ ?_
    simp only [q_vcs, q_vcc, q_vl, q_vu, ↓reduceIte, Nat.reduceEqDiff, Bool.false_eq_true, q_isc, q_mk, q_msk, zbX1_readSum, q_pad, q_ent, q_get, q_put, q_nl, q_w, List.cons_append, List.nil_append, q_aks, q_als, Nat.reduceAdd, Nat.reduceLeDiff, Nat.zero_le, true_and, and_true, Option.some.injEq, Sum.inl.injEq, Sum.inr.injEq, true_or, or_true, and_self, q_sw]
    refine ⟨fun _ => ?_, fun _ => ⟨_, _, hD2, c_rskipIf l S2 (c := 43) hR2 (by decide), fun v S3 h3 => ?_⟩⟩
    · rw [LwQ, hq]
      exact ⟨hR2, ⟨c2, hc2, fun b hb => by cases hb⟩, hf2⟩
    obtain ⟨hv, h3⟩ := h3
    cases hv
    refine ⟨fun _ => ⟨_, _, hD2, c_rskipIf l S3 (c := 45) h3.1 (by decide), fun v S4 h4 => ?_⟩, fun h => absurd rfl h⟩
    obtain ⟨hv, h4⟩ := h4
    cases hv
    refine ⟨fun _ => ⟨fun h => absurd trivial h, fun _ => ?_⟩, fun h => absurd rfl h⟩
    rw [LwQ, hq]
    exact ⟨h4.1, ⟨c2, lc_r1 (lc_r1 hc2 h3.2.2) h4.2.2, fun b hb => by cases hb⟩, (hf2.tr (flw_1 h3.2.2)).tr (flw_1 h4.2.2)⟩
  have hL : ∀ (g : Nat), g ≤ f → ∀ (k a : Nat) (c : List Tok) (S2 : qSt), lp T n g 1 o a c = some x → RD S2 T n a none → LcP S2 i (.inl a) c → k ≤ a → fr (Flw i) S S2 → AT 1 [some (.inr (.inr (12, i))), some (.inr (.inr (1, 0))), some (.inl (nI o)), some (.inl (nI k)), none] [] S2 := by
    intro g
    induction g with
    | zero => intro _ k a c S2 hx; cases hx
    | succ g ihg =>
      intro hg k a c S2 hx hR2 hc2 hk hf2
      have hn2 := hR2.1
      have at5 : ∀ (kk : Nat) (S3 : qSt), sop T n (tx T n isb a) = some kk → RD S3 T n (tx T n isb a + 1) none → fr Fr1 S2 S3 → AT 5 [some (.inr (.inr (12, i))), some (.inr (.inr (1, 0))), some (.inl (nI o)), some (.inl (nI k)), some (.inl (nI (1098 + kk)))] [] S3 := by
        intro kk S3 hs hR3 hf3
        have hge := tx_ge T n isb a
        have hlt := (sop_lt hs)
        rw [lp_1s hs] at hx
        have hc3 : LcP S3 i (.inl (tx T n isb a + 1)) c := by
          obtain ⟨c', h1, h2⟩ := lcp_r1 hc2 hf3
          refine ⟨c', h1, fun b hb => ?_⟩
          cases hb
          have := h2 a rfl
          exact ⟨this.1, by omega⟩
        have key : ∃ y, lp T n g 2 o (tx T n isb a + 1) c = some y ∧ (∀ b, y.1 = .inl b → lp T n g 1 o b (y.2 ++ [(kk, 0)]) = some x ∧ y.2.length < b ∧ tx T n isb a + 1 ≤ b) ∧ (∀ q, y.1 = .inr q → x.1 = .inr q) := by
          rcases andT_cases hx with ⟨b, c1, h1, h2⟩ | ⟨q, c1, h1, h2⟩
          · refine ⟨_, h1, fun b' hb' => ?_, fun q hq => by cases hq⟩
            cases hb'
            have hl := lp_len T n g 2 o _ c b c1 h1 (by omega)
            have h5 := hl.2.2.2 (by decide) (by decide)
            obtain ⟨c', k1, k2⟩ := hc2
            have := (k2 a rfl).2
            exact ⟨h2, by show c1.length < b; omega, by omega⟩
          · refine ⟨_, h1, fun b' hb' => (by cases hb'), fun q' hq => ?_⟩
            cases hq
            rw [h2]
        obtain ⟨y, hy, hy1, hy2⟩ := key
        refine step 40 [(1, [true, true, true, true, false])] 5 _ _ _ ?_
        simp only [q_vcs, q_vcc, q_vl, q_vu, ↓reduceIte, Nat.reduceEqDiff, Bool.false_eq_true, q_isc, q_mk, q_msk, zbX1_readSum, q_pad, q_ent, q_get, q_put, q_nl, q_w, List.cons_append, List.nil_append, q_aks, q_als, Nat.reduceAdd, Nat.reduceLeDiff, Nat.zero_le, true_and, and_true, Option.some.injEq, Sum.inl.injEq, Sum.inr.injEq, true_or, or_true, and_self, q_sw]
        refine ⟨_, _, (show D2 o < D0 o by unfold D2 D0; omega), ih g (by omega) o (.inl (tx T n isb a + 1)) c y S3 hy ho hR3 hc3, fun S4 h4 => ?_⟩
        obtain ⟨r1, r2, r3⟩ := h4
        have hf4 := (hf2.tr (flw_1 hf3)).tr r3
        obtain ⟨c4, r4, r5⟩ := r2
        refine ⟨_, _, (show 0 < D0 o by unfold D0; omega), c_lwrite l S4 (nI (1098 + kk)) r4, fun S5 h5 => ?_⟩
        obtain ⟨⟨c5, t1, t2⟩, t3⟩ := h5
        rw [nI_1]
        have hf5 := hf4.tr (flw_2 t3)
        have r6 := rs_lw r1 t3
        cases hy3 : y.1 with
        | inr q =>
          rw [hy3] at r6
          exact hF (k + 1) q S5 (hy2 q hy3) r6 ⟨c5, t1⟩ (by omega) hf5
        | inl b =>
          rw [hy3] at r1 r6
          obtain ⟨p1, p2, p3⟩ := hy1 b hy3
          refine ihg (by omega) (k + 1) b (y.2 ++ [(kk, 0)]) S5 p1 r6 ?_ (by omega) hf5
          refine ⟨c5, t1, fun b' hb' => ?_⟩
          cases hb'
          have e := (r5 b hy3).1
          have hnb := (show RD S4 T n b none from r1).1
          have ekk : tkI (kk, 0) = nI (1098 + kk) := by
            rcases hlt.2 with rfl | rfl <;> rfl
          rw [t2 (by rw [e]; simp; omega), e]
          simp [ekk]
          omega
      refine step 40 [(1, [true, true, true, true, false]), (5, [true, true, true, true, true])] 1 _ _ _ ?_
      simp only [q_vcs, q_vcc, q_vl, q_vu, ↓reduceIte, Nat.reduceEqDiff, Bool.false_eq_true, q_isc, q_mk, q_msk, zbX1_readSum, q_pad, q_ent, q_get, q_put, q_nl, q_w, List.cons_append, List.nil_append, q_aks, q_als, Nat.reduceAdd, Nat.reduceLeDiff, Nat.zero_le, true_and, and_true, Option.some.injEq, Sum.inl.injEq, Sum.inr.injEq, true_or, or_true, and_self, q_sw]
      rw [show (150 : Int32) = nI 150 from rfl, nI_leI (by decide) (by omega)]
      refine ⟨fun h => ?_, fun h150 => ⟨_, _, hD2, c_rskipIf l S2 (c := 43) (s := .inl a) hR2 (by decide), fun v S3 h3 => ?_⟩⟩
      · have et : tx T n isb a = a := tx_f (by unfold tb; simp; omega)
        rw [lp_1n (by rw [et]; exact sop_no (hr_ge (by omega) _) (hr_ge (by omega) _)), et] at hx
        cases hx
        exact ⟨hR2, hc2, hf2⟩
      obtain ⟨hv, h3⟩ := h3
      cases hv
      rw [bI_0]
      by_cases h43 : hr T n (tx T n isb a) = some 43
      · have e1 : pis T n 43 (.inl a) = true := by unfold pis; simp [h43]
        have e2 : psk T n 43 (.inl a) = .inl (tx T n isb a + 1) := by unfold psk; simp [h43]
        rw [e1]
        rw [e2] at h3
        refine ⟨fun h => (by cases h), fun _ => ⟨fun _ => at5 2 S3 (sop_43 h43) h3.1 h3.2.2, fun h => absurd h (by decide)⟩⟩
      · have e1 : pis T n 43 (.inl a) = false := by unfold pis; simp [h43]
        have e2 : psk T n 43 (.inl a) = .inl (tx T n isb a) := by unfold psk; simp [h43]
        rw [e1]
        rw [e2] at h3
        refine ⟨fun _ => ⟨_, _, hD2, c_rskipIf l S3 (c := 45) h3.1 (by decide), fun v S4 h4 => ?_⟩, fun h => absurd rfl h⟩
        obtain ⟨hv, h4⟩ := h4
        cases hv
        rw [bI_0]
        have et := tx_tx T n isb a
        by_cases h45 : hr T n (tx T n isb a) = some 45
        · have e1 : pis T n 45 (.inl (tx T n isb a)) = true := by unfold pis; simp [et, h45]
          have e2 : psk T n 45 (.inl (tx T n isb a)) = .inl (tx T n isb a + 1) := by unfold psk; simp [et, h45]
          rw [e1]
          rw [e2] at h4
          refine ⟨fun h => (by cases h), fun _ => ⟨fun _ => at5 3 S4 (sop_45 h45) h4.1 (h3.2.2.tr h4.2.2), fun h => absurd h (by decide)⟩⟩
        · have e1 : pis T n 45 (.inl (tx T n isb a)) = false := by unfold pis; simp [et, h45]
          have e2 : psk T n 45 (.inl (tx T n isb a)) = .inl (tx T n isb a) := by unfold psk; simp [et, h45]
          rw [e1]
          rw [e2] at h4
          refine ⟨fun _ => ⟨fun h => absurd trivial h, fun _ => ?_⟩, fun h => absurd rfl h⟩
          rw [lp_1n (sop_no h43 h45)] at hx
          cases hx
          have hf4 := h3.2.2.tr h4.2.2
          obtain ⟨c', k1, k2⟩ := lcp_r1 hc2 hf4
          have hge := tx_ge T n isb a
          exact ⟨h4.1, ⟨c', k1, fun b hb => by cases hb; have := k2 a rfl; exact ⟨this.1, Nat.le_trans this.2 hge⟩⟩, hf2.tr (flw_1 hf4)⟩
  refine step 40 [(1, [true, true, true, true, false])] 0 _ _ _ ?_
  simp only [q_vcs, q_vcc, q_vl, q_vu, ↓reduceIte, Nat.reduceEqDiff, Bool.false_eq_true, q_isc, q_mk, q_msk, zbX1_readSum, q_pad, q_ent, q_get, q_put, q_nl, q_w, List.cons_append, List.nil_append, q_aks, q_als, Nat.reduceAdd, Nat.reduceLeDiff, Nat.zero_le, true_and, and_true, Option.some.injEq, Sum.inl.injEq, Sum.inr.injEq, true_or, or_true, and_self, q_sw]
  cases s with
  | inr q =>
    cases hx
    refine ⟨_, _, (show D2 o < D0 o by unfold D2 D0; omega), ih 0 (by omega) o (.inr q) c (.inr q, c) S rfl ho hR hc, fun S4 h4 => ?_⟩
    obtain ⟨r1, ⟨c4, r4, r5⟩, r3⟩ := h4
    exact hF 0 q S4 rfl r1 ⟨c4, r4⟩ (by omega) r3
  | inl a =>
    have hx : lp T n (f + 1) 0 o a c = some x := hx
    rw [lp_0] at hx
    rcases andT_cases hx with ⟨b, c1, h1, h2⟩ | ⟨q, c1, h1, h2⟩
    · refine ⟨_, _, (show D2 o < D0 o by unfold D2 D0; omega), ih f (by omega) o (.inl a) c (.inl b, c1) S h1 ho hR hc, fun S4 h4 => ?_⟩
      obtain ⟨r1, r2, r3⟩ := h4
      exact hL f (Nat.le_refl _) 0 b c1 S4 h2 r1 r2 (by omega) r3
    · refine ⟨_, _, (show D2 o < D0 o by unfold D2 D0; omega), ih f (by omega) o (.inl a) c (.inr q, c1) S h1 ho hR hc, fun S4 h4 => ?_⟩
      obtain ⟨r1, ⟨c4, r4, r5⟩, r3⟩ := h4
      exact hF 0 q S4 (by rw [h2]) r1 ⟨c4, r4⟩ (by omega) r3
