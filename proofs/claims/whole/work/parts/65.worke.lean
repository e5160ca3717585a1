/-! Work: one step; the whole text -/
theorem skd_0 {T : Nat → Nat} {b e : Nat} (h : seg T b e = sw 15) : skd T b e = some 0 := by unfold skd; rw [if_pos h]
theorem skd_1 {T : Nat → Nat} {b e : Nat} (h0 : ¬ seg T b e = sw 15) (h : seg T b e = sw 16) : skd T b e = some 1 := by unfold skd; rw [if_neg h0, if_pos h]
theorem skd_2 {T : Nat → Nat} {b e : Nat} (h0 : ¬ seg T b e = sw 15) (h1 : ¬ seg T b e = sw 16) (h : seg T b e = sw 17) : skd T b e = some 2 := by unfold skd; rw [if_neg h0, if_neg h1, if_pos h]
theorem skd_3 {T : Nat → Nat} {b e : Nat} (h0 : ¬ seg T b e = sw 15) (h1 : ¬ seg T b e = sw 16) (h2 : ¬ seg T b e = sw 17) (h : seg T b e = sw 18) : skd T b e = some 3 := by unfold skd; rw [if_neg h0, if_neg h1, if_neg h2, if_pos h]
theorem skd_4 {T : Nat → Nat} {b e : Nat} (h0 : ¬ seg T b e = sw 15) (h1 : ¬ seg T b e = sw 16) (h2 : ¬ seg T b e = sw 17) (h3 : ¬ seg T b e = sw 18) (h : seg T b e = sw 19) : skd T b e = some 4 := by unfold skd; rw [if_neg h0, if_neg h1, if_neg h2, if_neg h3, if_pos h]
theorem skd_n {T : Nat → Nat} {b e : Nat} (h0 : ¬ seg T b e = sw 15) (h1 : ¬ seg T b e = sw 16) (h2 : ¬ seg T b e = sw 17) (h3 : ¬ seg T b e = sw 18) (h4 : ¬ seg T b e = sw 19) : skd T b e = none := by unfold skd; rw [if_neg h0, if_neg h1, if_neg h2, if_neg h3, if_neg h4]
/-- a plain step is written -/
theorem ww_fin {l : Launch} {T : Nat → Nat} {n : Nat} {Y : YD} {cd : List Tok} {z e k a b c : Nat} {s : PS} {S S1 : qSt} {d : Nat} (hn : n ≤ 150) (hd : 0 < d) (hk : k ≤ 3) (hR : RS S1 T n s) (hz : WC S1 z) (he : ∀ q i, q < 4 → i < z → wE S1 q i = wE S q i) (hf : fr Fwk S S1) (hs : s = (sbd T n Y cd e k).1) (hok : ∀ b', s = .inl b' → z < b' ∧ sok Y k a b c ∧ (sbd T n Y cd e k).2 = stf Y cd k a b c) : ∃ d' post, d' < d ∧ q_Met q_mt l d' k_X8_write 0 [.inr (.inr (18, 0)), .inl (nI k), .inl (nI a), .inl (nI b), .inl (nI c)] S1 post ∧ ∀ S', post none S' → WwQ T n Y cd z (sbd T n Y cd e k) S S' := by
  refine ⟨_, _, hd, c_wwrite l S1 (nI k) (nI a) (nI b) (nI c) hz, fun S2 h2 => ?_⟩
  obtain ⟨⟨z2, b1, b2, b3⟩, b4, b5⟩ := h2
  have hR2 := rs_w2 hR b5
  rw [hs] at hR2
  refine ⟨hR2, ⟨z2, b1, b2, fun b' hb' => ?_⟩, fun q i hq hi => by rw [b4 q i hq hi, he q i hq hi], hf.tr (fwk_2 b5)⟩
  rw [← hs] at hb'
  obtain ⟨k1, k2, k3⟩ := hok b' hb'
  have hbn : b' ≤ n := by
    rw [hb'] at hR
    exact (show RD S1 T n b' none from hR).1.2.1
  have b3 := b3 (by omega)
  have e2 := b3.1
  subst e2
  refine ⟨by omega, ?_⟩
  rw [k3]
  exact CI.one b3.2.1 hk b3.2.2.1 b3.2.2.2.1 b3.2.2.2.2 k2
set_option maxHeartbeats 1000000 in
theorem ww_unit {l : Launch} {T : Nat → Nat} {n : Nat} {Y : YD} {cd : List Tok} {y : Nat} (hY : y_ok Y) (hn : n ≤ 150) (f : Nat) (ih : WwS l T n Y cd y f) : WwU l T n Y cd y (f + 1) := by
  intro o a x S z hx ho hR hz hza hYR
  have hn6 := hR.1
  have hge := tx_ge T n isb a
  have hle : tx T n isb a ≤ n := tx_le hn6.2.1
  have hge2 := tx_ge T n isl (tx T n isb a)
  have hle2 : tx T n isl (tx T n isb a) ≤ n := tx_le hle
  have hc6 := hY.2.1
  have hl3 := hY.1
  have d4 : 4 < 9 + 3 * (6 - o) := by omega
  have d3 : 3 < 9 + 3 * (6 - o) := by omega
  have d2 : 2 < 9 + 3 * (6 - o) := by omega
  have d1 : 1 < 9 + 3 * (6 - o) := by omega
  have d0 : 0 < 9 + 3 * (6 - o) := by omega
  refine q_meth zoX8_readStep q_fos (Nat.le_of_ble_eq_true rfl) ?_
  intro AT step
  refine step 40 [] 0 _ _ _ ?_
  simp only [q_vcs, q_vcc, q_vl, q_vu, ↓reduceIte, Nat.reduceEqDiff, Bool.false_eq_true, q_isc, q_mk, q_msk, zbX8_readStep, q_pad, q_ent, q_get, q_put, q_nl, q_w, List.cons_append, List.nil_append, q_aks, q_als, Nat.reduceAdd, Nat.reduceLeDiff, Nat.zero_le, true_and, and_true, Option.some.injEq, Sum.inl.injEq, Sum.inr.injEq, true_or, or_true, and_self, q_sw]
  refine ⟨_, _, d1, c_readWord l S hR, fun S1 h1 => ?_⟩
  obtain ⟨w1, w2, w3⟩ := h1
  have hz1 := wc_r1 hz w3
  have hY1 := yr_r1 hYR w3
  have eE : ∀ q i, q < 4 → i < z → wE S1 q i = wE S q i := fun q i _ _ => wE_r1 w3 q i
  refine q_u1 d4 (c_isWord l S1 w1 w2 hge2 (i := 15) (by decide)) ?_
  rw [bI_0, isw0]
  refine ⟨fun h15 => ?_, fun h15 => ?_⟩
  rotate_left
  · have hs := skd_0 (Classical.not_not.mp h15)
    have hlt := skd_lt hs
    rw [wp_1k hs (by decide)] at hx
    cases hx
    rw [hY1.2.1]
    refine ⟨_, _, d2, c_rnum l S1 (lo := 0) (h := Y 1 0) (s := .inl _) w1 rfl rfl (by decide) (by omega), fun v S2 h2 => ?_⟩
    obtain ⟨v1, hv, a1, a2, a3, a4⟩ := h2
    cases hv
    refine ⟨_, _, d3, c_wreadLane l S2 hY a4.1 (yr_r1 hY1 a4.2.2), fun v S3 h3 => ?_⟩
    obtain ⟨v2, hv, b2, b3, b4⟩ := h3
    cases hv
    have hf3 := (a4.2.2.tr b4.2.2)
    refine ww_fin (k := 0) (c := 0) hn d0 (by decide) b4.1 (wc_r1 hz1 hf3) (fun q i hq hi => by rw [wE_r1 hf3]; exact eE q i hq hi) ((fwk_1 w3).tr (fwk_1 hf3)) rfl (fun b' hb' => ?_)
    have l2 := isL hb'
    have l1 := pnm_left l2
    obtain ⟨p1, p2⟩ := b3 l2
    obtain ⟨p3, p4⟩ := a3 l1
    have := sbd_lt (T := T) (n := n) (Y := Y) (cd := cd) (k := 0) (by decide) hle2 hb'
    refine ⟨by omega, ⟨fun _ => p4, fun _ => p2, fun h => by cases h⟩, ?_⟩
    rw [p1, p3]
    rfl
  refine q_u1 d4 (c_isWord l S1 w1 w2 hge2 (i := 16) (by decide)) ?_
  rw [bI_0, isw0]
  refine ⟨fun h16 => ?_, fun h16 => ?_⟩
  rotate_left
  · have hs := skd_1 h15 (Classical.not_not.mp h16)
    have hlt := skd_lt hs
    rw [wp_1k hs (by decide)] at hx
    cases hx
    rw [hY1.2.1]
    refine ⟨_, _, d2, c_rnum l S1 (lo := 0) (h := Y 1 0) (s := .inl _) w1 rfl rfl (by decide) (by omega), fun v S2 h2 => ?_⟩
    obtain ⟨v1, hv, a1, a2, a3, a4⟩ := h2
    cases hv
    refine ⟨_, _, d3, c_wreadLane l S2 hY a4.1 (yr_r1 hY1 a4.2.2), fun v S3 h3 => ?_⟩
    obtain ⟨v2, hv, b2, b3, b4⟩ := h3
    cases hv
    refine ⟨_, _, d3, c_wreadLane l S3 hY b4.1 (yr_r1 (yr_r1 hY1 a4.2.2) b4.2.2), fun v S4 h4 => ?_⟩
    obtain ⟨v3, hv, c2, c3, c4⟩ := h4
    cases hv
    have hf3 := ((a4.2.2.tr b4.2.2).tr c4.2.2)
    refine ww_fin (k := 1) hn d0 (by decide) c4.1 (wc_r1 hz1 hf3) (fun q i hq hi => by rw [wE_r1 hf3]; exact eE q i hq hi) ((fwk_1 w3).tr (fwk_1 hf3)) rfl (fun b' hb' => ?_)
    have l3 := isL hb'
    have l2 := pnm_left l3
    have l1 := pnm_left l2
    obtain ⟨p5, p6⟩ := c3 l3
    obtain ⟨p1, p2⟩ := b3 l2
    obtain ⟨p3, p4⟩ := a3 l1
    have := sbd_lt (T := T) (n := n) (Y := Y) (cd := cd) (k := 1) (by decide) hle2 hb'
    refine ⟨by omega, ⟨fun _ => p4, fun _ => p2, fun _ => p6⟩, ?_⟩
    rw [p1, p3, p5]
    rfl
  refine q_u1 d4 (c_isWord l S1 w1 w2 hge2 (i := 17) (by decide)) ?_
  rw [bI_0, isw0]
  refine ⟨fun h17 => ?_, fun h17 => ?_⟩
  rotate_left
  · have hs := skd_2 h15 h16 (Classical.not_not.mp h17)
    have hlt := skd_lt hs
    rw [wp_1k hs (by decide)] at hx
    cases hx
    refine ⟨_, _, d3, c_wreadLane l S1 (s := .inl _) hY w1 hY1, fun v S3 h3 => ?_⟩
    obtain ⟨v2, hv, b2, b3, b4⟩ := h3
    cases hv
    have hf3 := b4.2.2
    refine ww_fin (k := 2) (a := 0) (c := 0) hn d0 (by decide) b4.1 (wc_r1 hz1 hf3) (fun q i hq hi => by rw [wE_r1 hf3]; exact eE q i hq hi) ((fwk_1 w3).tr (fwk_1 hf3)) rfl (fun b' hb' => ?_)
    have l2 := isL hb'
    obtain ⟨p1, p2⟩ := b3 l2
    have := sbd_lt (T := T) (n := n) (Y := Y) (cd := cd) (k := 2) (by decide) hle2 hb'
    refine ⟨by omega, ⟨fun h => by omega, fun _ => p2, fun h => by cases h⟩, ?_⟩
    rw [p1]
    rfl
  refine q_u1 d4 (c_isWord l S1 w1 w2 hge2 (i := 18) (by decide)) ?_
  rw [bI_0, isw0]
  refine ⟨fun h18 => ?_, fun h18 => ?_⟩
  rotate_left
  · have hs := skd_3 h15 h16 h17 (Classical.not_not.mp h18)
    have hlt := skd_lt hs
    rw [wp_1k hs (by decide)] at hx
    cases hx
    refine ww_fin (k := 3) (a := 0) (b := 0) (c := 0) (s := .inl _) hn d0 (by decide) w1 hz1 eE (fwk_1 w3) rfl (fun b' hb' => ?_)
    cases hb'
    exact ⟨by omega, ⟨fun h => by omega, fun h => by omega, fun h => by cases h⟩, rfl⟩
  refine q_u1 d4 (c_isWord l S1 w1 w2 hge2 (i := 19) (by decide)) ?_
  rw [bI_0, isw0]
  refine ⟨fun h19 => ?_, fun h19 => ?_⟩
  rotate_left
  · have hs := skd_4 h15 h16 h17 h18 (Classical.not_not.mp h19)
    refine ⟨_, _, (show 8 + 3 * (6 - o) < 9 + 3 * (6 - o) by omega), ww_again hn f ih hs hx ho w1 w2 hz1 hza hY1, fun S2 h2 => ?_⟩
    exact ⟨h2.1, h2.2.1, fun q i hq hi => by rw [h2.2.2.1 q i hq hi]; exact eE q i hq hi, (fwk_1 w3).tr h2.2.2.2⟩
  have hs := skd_n h15 h16 h17 h18 h19
  rw [wp_1n hs] at hx
  cases hx
  rw [w2]
  refine ⟨_, _, d0, c_rfail l S1 (k := 1) (s := .inl _) w1 (by decide) (by omega), fun S2 h2 => ?_⟩
  exact ⟨h2.1, ⟨z, wc_r1 hz1 h2.2.2, Nat.le_refl _, fun b hb => by cases hb⟩, fun q i hq hi => by rw [wE_r1 h2.2.2]; exact eE q i hq hi, (fwk_1 w3).tr (fwk_1 h2.2.2)⟩
theorem ww_all {l : Launch} {T : Nat → Nat} {n : Nat} {Y : YD} {cd : List Tok} {y : Nat} (hY : y_ok Y) (hn : n ≤ 150) : ∀ f g, g ≤ f → WwS l T n Y cd y g ∧ WwU l T n Y cd y g := by
  intro f
  induction f with
  | zero =>
    intro g hg
    rw [show g = 0 by omega]
    exact ⟨ww_steps hn 0 (fun g hg => by omega), fun o a x S z hx => by cases hx⟩
  | succ f ih =>
    intro g hg
    by_cases e : g ≤ f
    · exact ih g e
    · rw [show g = f + 1 by omega]
      exact ⟨ww_steps hn (f + 1) (fun g hg => (ih g (by omega)).2), ww_unit hY hn f (ih f (Nat.le_refl _)).1⟩
theorem c_wread (l : Launch) (S : qSt) {T : Nat → Nat} {n y f : Nat} {Y : YD} {cd : List Tok} {x : PS × WF} (hY : y_ok Y) (hn : n ≤ 150) (hR : RD S T n 0 none) (hYR : YR S y Y) (hx : wp T n Y cd f 0 0 0 = some x) : q_Met q_mt l 30 k_X8_read 0 [.inr (.inr (18, 0)), .inr (.inr (1, 0)), .inr (.inr (3, y))] S (fun _ S' => RS S' T n x.1 ∧ (∃ z, WC S' z ∧ ∀ b, x.1 = .inl b → CI Y cd (wE S') 0 z x.2) ∧ fr Fwk S S') := by
  refine q_meth zoX8_read q_fos (Nat.le_of_ble_eq_true rfl) ?_
  intro AT step
  refine step 20 [] 0 _ _ _ ?_
  simp only [q_vcs, q_vcc, q_vl, q_vu, ↓reduceIte, Nat.reduceEqDiff, Bool.false_eq_true, q_isc, q_mk, q_msk, zbX8_read, q_pad, q_ent, q_get, q_put, q_nl, q_w, List.cons_append, List.nil_append, q_aks, q_als, Nat.reduceAdd, Nat.reduceLeDiff, Nat.zero_le, true_and, and_true, Option.some.injEq, Sum.inl.injEq, Sum.inr.injEq, true_or, or_true, and_self, q_sw]
  have hf0 : fr Fw2 S (q_wI S 18 0 5 0) := fr.wI fr.rf (by decide)
  have hz0 : WC (q_wI S 18 0 5 0) 0 := ⟨by rw [q_I_wI, if_pos ⟨rfl, rfl, rfl⟩]; rfl, by decide⟩
  refine ⟨_, _, (by decide : 10 + 3 * (6 - 0) < 30), (ww_all hY hn f f (Nat.le_refl _)).1 0 (.inl 0) x _ 0 hx (by decide) (rs_w2 (s := .inl 0) hR hf0) hz0 (fun _ _ => Nat.zero_le _) (yr_wk hYR (fwk_2 hf0)), fun S1 h1 => ?_⟩
  obtain ⟨r1, ⟨z, r2, r3, r4⟩, r5, r6⟩ := h1
  exact ⟨r1, ⟨z, r2, fun b hb => (r4 b hb).2⟩, (fwk_2 hf0).tr r6⟩
