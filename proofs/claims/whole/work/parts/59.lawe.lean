/-! Law: units, the whole text; its reckoning -/
theorem lc_tok {S S' : qSt} {i b : Nat} {c : List Tok} {c' : List Int32} {t : Tok} {n : Nat} (hn : n ≤ 150) (hb : b ≤ n) (h1 : c' = c.map tkI ∧ c.length < b) {c2 : List Int32} (h2 : LC S' i c2) (h3 : c'.length < 160 → c2 = c' ++ [tkI t]) : LcP S' i (.inl b) (c ++ [t]) := by
  refine ⟨c2, h2, fun b' hb' => ?_⟩
  cases hb'
  rw [h3 (by rw [h1.1]; simp; omega), h1.1]
  simp
  omega
set_option maxHeartbeats 1000000 in
theorem lw_unit {l : Launch} {T : Nat → Nat} {n i : Nat} (hn : n ≤ 150) (f : Nat) (ih : LwC l T n i 0 k_X1_readSum f D0) : LwC l T n i 4 k_X1_readUnit (f + 1) D4 := by
  intro o s c x S hx ho hR hc
  have hD5 : 5 < D4 o := by unfold D4; omega
  have hD4 : 4 < D4 o := by omega
  have hD2 : 2 < D4 o := by omega
  have hD1 : 1 < D4 o := by omega
  have hD0 : 0 < D4 o := by omega
  have hDB : 7 + 4 * (6 - o) < D4 o := by unfold D4; omega
  refine q_meth zoX1_readUnit q_fos (Nat.le_of_ble_eq_true rfl) ?_
  intro AT step
  cases s with
  | inr q =>
    cases hx
    refine step 20 [] 0 _ _ _ ?_
    simp only [q_vcs, q_vcc, q_vl, q_vu, ↓reduceIte, Nat.reduceEqDiff, Bool.false_eq_true, q_isc, q_mk, q_msk, zbX1_readUnit, q_pad, q_ent, q_get, q_put, q_nl, q_w, List.cons_append, List.nil_append, q_aks, q_als, Nat.reduceAdd, Nat.reduceLeDiff, Nat.zero_le, true_and, and_true, Option.some.injEq, Sum.inl.injEq, Sum.inr.injEq, true_or, or_true, and_self, q_sw]
    refine q_u1 hD0 (c_sound l S hR) ?_
    refine ⟨fun h => absurd rfl h, fun _ => ⟨hR, hc, fr.rf⟩⟩
  | inl a =>
    have hx : lp T n (f + 1) 4 o a c = some x := hx
    have hR : RD S T n a none := hR
    have hn6 := hR.1
    have hge := tx_ge T n isb a
    have hle : tx T n isb a ≤ n := tx_le hn6.2.1
    have hge2 := tx_ge T n isl (tx T n isb a)
    have hle2 : tx T n isl (tx T n isb a) ≤ n := tx_le hle
    refine step 40 [] 0 _ _ _ ?_
    simp only [q_vcs, q_vcc, q_vl, q_vu, ↓reduceIte, Nat.reduceEqDiff, Bool.false_eq_true, q_isc, q_mk, q_msk, zbX1_readUnit, q_pad, q_ent, q_get, q_put, q_nl, q_w, List.cons_append, List.nil_append, q_aks, q_als, Nat.reduceAdd, Nat.reduceLeDiff, Nat.zero_le, true_and, and_true, Option.some.injEq, Sum.inl.injEq, Sum.inr.injEq, true_or, or_true, and_self, q_sw]
    refine q_u1 hD0 (c_sound l S (s := .inl a) hR) ?_
    refine ⟨fun _ => ?_, fun h => absurd h (show ¬ (1 : Int32) = 0 by decide)⟩
    refine ⟨_, _, hD1, c_isNext l S (c := 40) hR (by decide), fun v S1 h1 => ?_⟩
    obtain ⟨hv, h1⟩ := h1
    cases hv
    rw [bI_0]
    obtain ⟨c0, hc0, hc0'⟩ := hc
    have hcl := hc0' a rfl
    have hc1 := lcp_r1 (s := .inl a) (c := c) ⟨c0, hc0, hc0'⟩ h1.2.2
    by_cases h40 : hr T n (tx T n isb a) = some 40
    · refine ⟨fun h => absurd h (by simp [h40]), fun _ => ⟨_, _, hDB, lw_bracket f ih h40 hx ho h1.1 hc1, fun S2 h2 => ⟨h2.1, h2.2.1, (flw_1 h1.2.2).tr h2.2.2⟩⟩⟩
    · refine ⟨fun _ => ?_, fun h => absurd (by simp [h40]) h⟩
      refine q_u1 hD1 (c_isDigitHere l S1 h1.1) ?_
      rw [bI_0]
      by_cases hd : tb T n isd (tx T n isb a) = true
      · refine ⟨fun h => absurd h (by rw [hd]; decide), fun _ => ?_⟩
        rw [lp_4d h40 hd] at hx
        cases hx
        refine ⟨_, _, hD2, c_rnum l S1 (lo := 0) (h := 1000) (s := .inl (tx T n isb a)) h1.1 rfl (by decide) (by decide) (by decide), fun v S2 h2 => ?_⟩
        obtain ⟨w, hv, k1, k2, k3, k4⟩ := h2
        cases hv
        have hc2 := lc_r1 (lc_r1 hc0 h1.2.2) k4.2.2
        refine ⟨_, _, hD0, c_lwrite l S2 (nI w) hc2, fun S3 h3 => ?_⟩
        obtain ⟨⟨c3, v1, v2⟩, v3⟩ := h3
        refine ⟨rs_lw k4.1 v3, ?_, ((flw_1 h1.2.2).tr (flw_1 k4.2.2)).tr (flw_2 v3)⟩
        show LcP S3 i (pnm T n 0 1000 (.inl (tx T n isb a))) _
        cases hp : pnm T n 0 1000 (.inl (tx T n isb a)) with
        | inr q => exact ⟨c3, v1, fun b hb => by cases hb⟩
        | inl b =>
          obtain ⟨b0, e0, p1, p2⟩ := pnm_lt hp
          cases e0
          have hw := (k3 (by rw [hp]; rfl)).1
          refine lc_tok (S := S) hn (p2 hle) ⟨hcl.1, by omega⟩ v1 (fun h => ?_)
          rw [v2 h, hw]
          rfl
      · refine ⟨fun _ => ?_, fun h => absurd (ts_nt hd) h⟩
        refine ⟨_, _, hD1, c_readWord l S1 h1.1, fun S2 h2 => ?_⟩
        rw [tx_tx] at h2
        obtain ⟨w1, w2, w3⟩ := h2
        refine q_u1 hD5 (c_factOf l S2 w1 w2 hge2) ?_
        have hf2 := h1.2.2.tr w3
        have hcS2 := lc_r1 hc0 hf2
        cases hf : fct T (tx T n isb a) (tx T n isl (tx T n isb a)) with
        | some k =>
          have hk8 := fct_lt hf
          refine ⟨fun h => absurd h (i_ne1 (by omega)), fun _ => ?_⟩
          rw [show oI (some k) = nI k from rfl, show (1000 : Int32) = nI 1000 from rfl, nI_add]
          refine ⟨_, _, hD0, c_lwrite l S2 (nI (1000 + k)) hcS2, fun S3 h3 => ?_⟩
          obtain ⟨⟨c3, v1, v2⟩, v3⟩ := h3
          rw [lp_4f h40 hd hf] at hx
          cases hx
          refine ⟨rs_lw (s := .inl _) w1 v3, ?_, (flw_1 hf2).tr (flw_2 v3)⟩
          refine lc_tok (S := S) hn hle2 ⟨hcl.1, by omega⟩ v1 (fun h => ?_)
          rw [v2 h]
          rfl
        | none =>
          refine ⟨fun _ => ?_, fun h => absurd rfl h⟩
          refine q_u1 hD4 (c_isWord l S2 w1 w2 hge2 (i := 13) (by decide)) ?_
          rw [bI_0, isw0]
          have hcP : LcP S2 i (.inl a) c := ⟨c0, hcS2, hc0'⟩
          by_cases e13 : seg T (tx T n isb a) (tx T n isl (tx T n isb a)) = sw 13
          · have ht : two T (tx T n isb a) (tx T n isl (tx T n isb a)) = some 7 := by unfold two; rw [if_pos e13]
            refine ⟨fun h => absurd e13 h, fun _ => ⟨_, _, hDB, lw_two hn f ih h40 hd hf ht hx ho w1 w2 hcP, fun S3 h3 => ⟨h3.1, h3.2.1, (flw_1 hf2).tr h3.2.2⟩⟩⟩
          · refine ⟨fun _ => ?_, fun h => absurd e13 h⟩
            refine q_u1 hD4 (c_isWord l S2 w1 w2 hge2 (i := 14) (by decide)) ?_
            rw [bI_0, isw0]
            by_cases e14 : seg T (tx T n isb a) (tx T n isl (tx T n isb a)) = sw 14
            · have ht : two T (tx T n isb a) (tx T n isl (tx T n isb a)) = some 8 := by unfold two; rw [if_neg e13, if_pos e14]
              refine ⟨fun h => absurd e14 h, fun _ => ⟨_, _, hDB, lw_two hn f ih h40 hd hf ht hx ho w1 w2 hcP, fun S3 h3 => ⟨h3.1, h3.2.1, (flw_1 hf2).tr h3.2.2⟩⟩⟩
            · refine ⟨fun _ => ?_, fun h => absurd e14 h⟩
              have ht : two T (tx T n isb a) (tx T n isl (tx T n isb a)) = none := by unfold two; rw [if_neg e13, if_neg e14]
              rw [lp_4n h40 hd hf ht] at hx
              cases hx
              rw [w2]
              refine ⟨_, _, hD0, c_rfail l S2 (k := 1) (s := .inl _) w1 (by decide) (by omega), fun S3 h3 => ?_⟩
              exact ⟨h3.1, ⟨c0, lc_r1 hcS2 h3.2.2, fun b hb => by cases hb⟩, (flw_1 hf2).tr (flw_1 h3.2.2)⟩
theorem lw_zero {l : Launch} {T : Nat → Nat} {n i m kk : Nat} {D : Nat → Nat} (h : LwC l T n i m kk 1 D) : LwC l T n i m kk 0 D := by
  intro o s c x S hx ho hR hc
  cases s with
  | inl a => cases hx
  | inr q => exact h o (.inr q) c x S hx ho hR hc
theorem lw_u0 {l : Launch} {T : Nat → Nat} {n i : Nat} : LwC l T n i 4 k_X1_readUnit 0 D4 := by
  intro o s c x S hx ho hR hc
  cases s with
  | inl a => cases hx
  | inr q =>
    cases hx
    have hD0 : 0 < D4 o := by unfold D4; omega
    refine q_meth zoX1_readUnit q_fos (Nat.le_of_ble_eq_true rfl) ?_
    intro AT step
    refine step 20 [] 0 _ _ _ ?_
    simp only [q_vcs, q_vcc, q_vl, q_vu, ↓reduceIte, Nat.reduceEqDiff, Bool.false_eq_true, q_isc, q_mk, q_msk, zbX1_readUnit, q_pad, q_ent, q_get, q_put, q_nl, q_w, List.cons_append, List.nil_append, q_aks, q_als, Nat.reduceAdd, Nat.reduceLeDiff, Nat.zero_le, true_and, and_true, Option.some.injEq, Sum.inl.injEq, Sum.inr.injEq, true_or, or_true, and_self, q_sw]
    refine q_u1 hD0 (c_sound l S hR) ?_
    refine ⟨fun h => absurd rfl h, fun _ => ⟨hR, hc, fr.rf⟩⟩
theorem lw_all {l : Launch} {T : Nat → Nat} {n i : Nat} (hn : n ≤ 150) : ∀ f g, g ≤ f → LwC l T n i 0 k_X1_readSum g D0 ∧ LwC l T n i 2 k_X1_readProduct g D2 ∧ LwC l T n i 4 k_X1_readUnit g D4 := by
  have p0 : LwC l T n i 2 k_X1_readProduct 0 D2 := lw_zero (lw_prod hn 0 (fun g hg => by rw [show g = 0 by omega]; exact lw_u0))
  have s0 : LwC l T n i 0 k_X1_readSum 0 D0 := lw_zero (lw_sum hn 0 (fun g hg => by rw [show g = 0 by omega]; exact p0))
  intro f
  induction f with
  | zero =>
    intro g hg
    rw [show g = 0 by omega]
    exact ⟨s0, p0, lw_u0⟩
  | succ f ih =>
    intro g hg
    by_cases e : g ≤ f
    · exact ih g e
    · rw [show g = f + 1 by omega]
      exact ⟨lw_sum hn f (fun g hg => (ih g hg).2.1), lw_prod hn f (fun g hg => (ih g hg).2.2), lw_unit hn f (ih f (Nat.le_refl _)).1⟩
/-- the law's text, read to its end: its state and signs -/
def lend (T : Nat → Nat) (n : Nat) (s : PS) : PS := match s with
  | .inl a => if n ≤ tx T n isb a then .inl (tx T n isb a) else .inr (1, tx T n isb a)
  | .inr q => .inr q
theorem c_lread (l : Launch) (S : qSt) {T : Nat → Nat} {n i f : Nat} {x : PS × List Tok} (hn : n ≤ 150) (hR : RD S T n 0 none) (hx : lp T n f 0 0 0 [] = some x) : q_Met q_mt l 40 k_X1_read 0 [.inr (.inr (12, i)), .inr (.inr (1, 0))] S (fun _ S' => RS S' T n (lend T n x.1) ∧ (∃ c', LC S' i c' ∧ ((lend T n x.1).isLeft = true → c' = x.2.map tkI)) ∧ fr (Flw i) S S') := by
  refine q_meth zoX1_read q_fos (Nat.le_of_ble_eq_true rfl) ?_
  intro AT step
  refine step 20 [] 0 _ _ _ ?_
  simp only [q_vcs, q_vcc, q_vl, q_vu, ↓reduceIte, Nat.reduceEqDiff, Bool.false_eq_true, q_isc, q_mk, q_msk, zbX1_read, q_pad, q_ent, q_get, q_put, q_nl, q_w, List.cons_append, List.nil_append, q_aks, q_als, Nat.reduceAdd, Nat.reduceLeDiff, Nat.zero_le, true_and, and_true, Option.some.injEq, Sum.inl.injEq, Sum.inr.injEq, true_or, or_true, and_self, q_sw]
  have hf0 : fr (fun f j => j = i ∧ (f = 12 ∨ f = 13)) S (q_wI S 12 i 3 0) := fr.wI fr.rf ⟨rfl, Or.inl rfl⟩
  have hc0 : LcP (q_wI S 12 i 3 0) i (.inl 0) [] := ⟨[], ⟨by rw [q_I_wI, if_pos ⟨rfl, rfl, rfl⟩]; rfl, by decide, fun k hk => by simp at hk⟩, fun b hb => by cases hb; exact ⟨rfl, by decide⟩⟩
  refine ⟨_, _, (by decide : D0 0 < 40), (lw_all hn f f (Nat.le_refl _)).1 0 (.inl 0) [] x _ hx (by decide) (rs_lw (s := .inl 0) hR hf0) hc0, fun S1 h1 => ?_⟩
  obtain ⟨r1, ⟨c1, r2, r4⟩, r3⟩ := h1
  have hf1 := (flw_2 hf0).tr r3
  cases hx1 : x.1 with
  | inl a =>
    rw [hx1] at r1
    have r1 : RD S1 T n a none := r1
    refine ⟨_, _, (by decide : 1 < 40), c_isAtEnd l S1 r1, fun v S2 h2 => ?_⟩
    obtain ⟨hv, h2⟩ := h2
    cases hv
    rw [bI_0]
    unfold lend
    dsimp only
    by_cases he : n ≤ tx T n isb a
    · rw [if_pos he]
      refine ⟨fun _ => ⟨h2.1, ⟨c1, lc_r1 r2 h2.2.2, fun _ => (r4 a hx1).1⟩, hf1.tr (flw_1 h2.2.2)⟩, fun h => absurd h (by simp [he])⟩
    · rw [if_neg he]
      refine ⟨fun h => absurd (by simp [he]) h, fun _ => ?_⟩
      have hn2 := h2.1.1
      rw [h2.1.2.1.2.2.1]
      refine ⟨_, _, (by decide : 0 < 40), c_rfail l S2 (k := 1) (s := .inl _) h2.1 (by decide) (by omega), fun S3 h3 => ?_⟩
      exact ⟨h3.1, ⟨c1, lc_r1 (lc_r1 r2 h2.2.2) h3.2.2, fun h => by cases h⟩, (hf1.tr (flw_1 h2.2.2)).tr (flw_1 h3.2.2)⟩
  | inr q =>
    rw [hx1] at r1
    obtain ⟨a, r1⟩ := r1
    refine ⟨_, _, (by decide : 1 < 40), c_isAtEnd l S1 r1, fun v S2 h2 => ?_⟩
    obtain ⟨hv, h2⟩ := h2
    cases hv
    have fin : RS S2 T n (lend T n (.inr q)) ∧ (∃ c', LC S2 i c' ∧ ((lend T n (.inr q)).isLeft = true → c' = x.2.map tkI)) ∧ fr (Flw i) S S2 := ⟨⟨_, h2.1⟩, ⟨c1, lc_r1 r2 h2.2.2, fun h => by cases h⟩, hf1.tr (flw_1 h2.2.2)⟩
    refine ⟨fun _ => fin, fun _ => ?_⟩
    have hn2 := h2.1.1
    rw [h2.1.2.1.2.2.1]
    refine ⟨_, _, (by decide : 0 < 40), c_rfail l S2 (k := 1) (s := .inr q) ⟨_, h2.1⟩ (by decide) (by omega), fun S3 h3 => ?_⟩
    exact ⟨h3.1, ⟨c1, lc_r1 (lc_r1 r2 h2.2.2) h3.2.2, fun h => by cases h⟩, (hf1.tr (flw_1 h2.2.2)).tr (flw_1 h3.2.2)⟩
