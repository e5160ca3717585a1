/-! the reference: the yard's text -/
def mkd (k : Nat) : Int32 := match k with
  | 0 => -1
  | 1 => 0
  | 2 => 1
  | 3 => 3
  | _ => 2
theorem MD.b {S : qSt} {T : Nat → Nat} {n a : Nat} {e : Option (Nat × Nat)} (h : MD S T n (tx T n isb a) e) : MD S T n (tx T n isb (tx T n isb a)) e := by rw [tx_tx]; exact h
theorem c_mkindHere (l : Launch) (S : qSt) {T : Nat → Nat} {n a : Nat} (hR : MD S T n a none) : q_Met q_mt l 4 k_X11_kindHere 1 [.inr (.inr (40, 0))] S (fun r S' => r = some (.inl (mkd (ykd T (tx T n isb a) (tx T n isl (tx T n isb a))))) ∧ MD S' T n (tx T n isb a) none ∧ ME S S') := by
  refine q_meth zoX11_kindHere q_fos (Nat.le_of_ble_eq_true rfl) ?_
  intro AT step
  refine step 20 [] 0 _ _ _ ?_
  simp only [q_vcs, q_vcc, q_vl, q_vu, ↓reduceIte, Nat.reduceEqDiff, Bool.false_eq_true, q_isc, q_mk, q_msk, zbX11_kindHere, q_pad, q_ent, q_get, q_put, q_nl, q_w, List.cons_append, List.nil_append, q_aks, q_als, Nat.reduceAdd, Nat.reduceLeDiff, Nat.zero_le, true_and, and_true, Option.some.injEq, Sum.inl.injEq, Sum.inr.injEq, true_or, or_true, and_self, q_sw]
  have et := tx_tx T n isb a
  refine ⟨_, _, (by decide : 3 < 4), c_misWord l S (i := 3) 12 1 14 5 0 0 hR (by decide) (by decide), fun v S1 h1 => ?_⟩
  obtain ⟨hv, h1⟩ := h1
  cases hv
  rw [bI_0]
  unfold ykd
  by_cases e3 : seg T (tx T n isb a) (tx T n isl (tx T n isb a)) = sw 3
  · rw [if_pos e3, decide_eq_true e3]
    exact ⟨fun h => (by cases h), fun _ => ⟨rfl, h1⟩⟩
  rw [if_neg e3, decide_eq_false e3]
  refine ⟨fun _ => ?_, fun h => absurd rfl h⟩
  refine ⟨_, _, (by decide : 3 < 4), c_misWord l S1 (i := 4) 3 1 18 0 0 0 h1.1 (by decide) (by decide), fun v S2 h2 => ?_⟩
  obtain ⟨hv, h2⟩ := h2
  cases hv
  rw [et] at h2
  have hE2 := h1.2.tr h2.2
  rw [bI_0, et]
  by_cases e4 : seg T (tx T n isb a) (tx T n isl (tx T n isb a)) = sw 4
  · rw [if_pos e4, decide_eq_true e4]
    exact ⟨fun h => (by cases h), fun _ => ⟨rfl, h2.1, hE2⟩⟩
  rw [if_neg e4, decide_eq_false e4]
  refine ⟨fun _ => ?_, fun h => absurd rfl h⟩
  refine ⟨_, _, (by decide : 3 < 4), c_misWord l S2 (i := 6) 3 15 19 20 0 0 h2.1 (by decide) (by decide), fun v S3 h3 => ?_⟩
  obtain ⟨hv, h3⟩ := h3
  cases hv
  rw [et] at h3
  have hE3 := hE2.tr h3.2
  rw [bI_0, et]
  by_cases e6 : seg T (tx T n isb a) (tx T n isl (tx T n isb a)) = sw 6
  · have e5 : ¬ seg T (tx T n isb a) (tx T n isl (tx T n isb a)) = sw 5 := by rw [e6]; decide
    rw [if_neg e5, if_pos e6, decide_eq_true e6]
    exact ⟨fun h => (by cases h), fun _ => ⟨rfl, h3.1, hE3⟩⟩
  rw [decide_eq_false e6]
  refine ⟨fun _ => ?_, fun h => absurd rfl h⟩
  refine ⟨_, _, (by decide : 3 < 4), c_misWord l S3 (i := 5) 11 5 25 0 0 0 h3.1 (by decide) (by decide), fun v S4 h4 => ?_⟩
  obtain ⟨hv, h4⟩ := h4
  cases hv
  rw [et] at h4
  have hE4 := hE3.tr h4.2
  rw [bI_0, et]
  by_cases e5 : seg T (tx T n isb a) (tx T n isl (tx T n isb a)) = sw 5
  · rw [if_pos e5, decide_eq_true e5]
    exact ⟨fun h => (by cases h), fun _ => ⟨rfl, h4.1, hE4⟩⟩
  rw [if_neg e5, if_neg e6, decide_eq_false e5]
  exact ⟨fun _ => ⟨rfl, h4.1, hE4⟩, fun h => absurd rfl h⟩
/-- the yard that is being read -/
def MR (S : qSt) (Y : YD) : Prop := (q_I S 43 0 0 = nI (Y 0 0) ∧ q_I S 43 0 1 = nI (Y 1 0) ∧ q_I S 43 0 2 = nI (Y 2 0)) ∧ (∀ k, k < Y 0 0 → q_I S 45 0 k = nI (Y 3 k)) ∧ (∀ c, c < Y 1 0 → q_I S 50 c 0 = nI (Y 4 c) ∧ q_I S 50 c 1 = nI (Y 5 c) ∧ q_I S 50 c 2 = nI (Y 6 c)) ∧ ∀ c, c < 6 → q_I S 47 0 c = nI (if c < Y 1 0 then Y 7 c else 2 ^ c)
abbrev Fyd : Nat → Nat → Prop := fun f _ => f = 40 ∨ f = 43 ∨ f = 45 ∨ f = 47 ∨ f = 50
theorem fyd_e {S S' : qSt} (h : ME S S') : fr Fyd S S' := h.2.mn fun f k h => Or.inl h
theorem MR.fr {F : Nat → Nat → Prop} {S S' : qSt} {Y : YD} (h : MR S Y) (hf : fr F S S') (h1 : ∀ i, ¬ F 43 i) (h2 : ∀ i, ¬ F 45 i) (h3 : ∀ i, ¬ F 47 i) (h4 : ∀ i, ¬ F 50 i) : MR S' Y := by
  unfold MR at *
  rw [(hf 43 0 (h1 0)).1, (hf 45 0 (h2 0)).1, (hf 47 0 (h3 0)).1]
  refine ⟨h.1, h.2.1, fun c hc => ?_, h.2.2.2⟩
  rw [(hf 50 c (h4 c)).1]
  exact h.2.2.1 c hc
theorem mr_e {S S' : qSt} {Y : YD} (h : MR S Y) (hE : ME S S') : MR S' Y := h.fr hE.2 (fun _ q => by cases q) (fun _ q => by cases q) (fun _ q => by cases q) (fun _ q => by cases q)
/-- reading goes on over a store that other rows changed -/
theorem ms_w {S S' : qSt} {T : Nat → Nat} {n : Nat} {s : PS} (h : MS S T n s) (h1 : ∀ j, j = 2 ∨ 4 ≤ j ∧ j ≤ 6 → q_I S' 40 0 j = q_I S 40 0 j) (h2 : q_I S' 41 0 = q_I S 41 0) : MS S' T n s := by
  have key : ∀ a e, MD S T n a e → MD S' T n a e := fun a e hM => by
    unfold MD at *
    rw [h1 2 (by decide), h1 4 (by decide), h1 5 (by decide), h1 6 (by decide), h2]
    exact hM
  cases s with
  | inl a => exact key _ _ h
  | inr q =>
    obtain ⟨a, h⟩ := h
    exact ⟨a, key _ _ h⟩
/-- what a clause does beside reading -/
def McQ (S S' : qSt) : Prop := (∀ j, ¬ (4 ≤ j ∧ j ≤ 7) → q_I S' 40 0 j = q_I S 40 0 j) ∧ fr Fyd S S'
theorem McQ.e {S S1 S2 : qSt} (h : McQ S S1) (hE : ME S1 S2) : McQ S S2 := ⟨fun j hj => by rw [hE.1 j (by omega), h.1 j hj], h.2.tr (fyd_e hE)⟩
theorem McQ.w {S S1 : qSt} (h : McQ S S1) {f i j : Nat} {v : Int32} (hf : f = 43 ∨ f = 45 ∨ f = 47 ∨ f = 50) : McQ S (q_wI S1 f i j v) := ⟨fun q hq => by rw [q_I_wI, if_neg (by omega)]; exact h.1 q hq, fr.wI h.2 (Or.inr hf)⟩
set_option maxHeartbeats 2000000 in
theorem c_mclause (l : Launch) (S : qSt) {T : Nat → Nat} {n k a : Nat} {Y : YD} (hY : y_ok Y) (hR : MD S T n a none) (hMR : MR S Y) (hk : k ≤ 60) (hcl : q_I S 40 0 7 = nI k) : q_Met q_mt l 5 k_X11_clause 0 [.inr (.inr (40, 0))] S (fun _ S' => MS S' T n (ycl T n k a Y).1 ∧ ((ycl T n k a Y).1.isLeft = true → MR S' (ycl T n k a Y).2 ∧ q_I S' 40 0 7 = nI (k + 1)) ∧ McQ S S') := by
  have hn6 := hR.1.1
  have hb : tx T n isb a ≤ n := tx_le hR.1.2.1
  have hs3 := hY.1
  have hc6 := hY.2.1
  have k0 : Int32.toNatClampNeg 0 = 0 := rfl
  have k1 : Int32.toNatClampNeg 1 = 1 := rfl
  have k2 : Int32.toNatClampNeg 2 = 2 := rfl
  have v3 : ∀ k, k < 3 → vp_in (nI k) 3 := fun k hk => i_in hk (by decide)
  refine q_meth zoX11_clause q_fos (Nat.le_of_ble_eq_true rfl) ?_
  intro AT step
  have fin13 : ∀ (S3 : qSt) (x y z : Option qV) (s : PS) (Y1 : YD), MS S3 T n s → McQ S S3 → psg T n 59 s = (ycl T n k a Y).1 → (s.isLeft = true → MR S3 Y1 ∧ Y1 = (ycl T n k a Y).2) → q_I S3 40 0 7 = nI (k + 1) → AT 13 [some (.inr (.inr (40, 0))), none, none, none] [] S3 := by
    intro S3 x y z s Y1 h1 h2 h3 h4 h5
    refine step 20 [] 13 _ _ _ ?_
    simp only [q_vcs, q_vcc, q_vl, q_vu, ↓reduceIte, Nat.reduceEqDiff, Bool.false_eq_true, q_isc, q_mk, q_msk, zbX11_clause, q_pad, q_ent, q_get, q_put, q_nl, q_w, List.cons_append, List.nil_append, q_aks, q_als, Nat.reduceAdd, Nat.reduceLeDiff, Nat.zero_le, true_and, and_true, Option.some.injEq, Sum.inl.injEq, Sum.inr.injEq, true_or, or_true, and_self, q_sw]
    refine ⟨_, _, (by decide : 2 < 5), c_msign l S3 (c := 59) h1 (by decide), fun S4 h => ?_⟩
    rw [h3] at h
    refine ⟨h.1, fun hl => ?_, h2.e h.2⟩
    have hsl : s.isLeft = true := by rw [← h3] at hl; exact psg_left hl
    obtain ⟨g1, g2⟩ := h4 hsl
    rw [← g2]
    exact ⟨mr_e g1 h.2, by rw [h.2.1 7 (by decide)]; exact h5⟩
  have stop : ∀ (S2 : qSt) (q : Nat × Nat) (x : Int32), (ycl T n k a Y).1 = .inr q → MS S2 T n (.inr q) → McQ S S2 → AT 4 [some (.inr (.inr (40, 0))), some (.inl x), none, none] [] S2 := by
    intro S2 q x hq hR2 hM2
    refine step 20 [(13, [true, false, false, false]), (5, [true, true, false, false])] 4 _ _ _ ?_
    simp only [q_vcs, q_vcc, q_vl, q_vu, ↓reduceIte, Nat.reduceEqDiff, Bool.false_eq_true, q_isc, q_mk, q_msk, zbX11_clause, q_pad, q_ent, q_get, q_put, q_nl, q_w, List.cons_append, List.nil_append, q_aks, q_als, Nat.reduceAdd, Nat.reduceLeDiff, Nat.zero_le, true_and, and_true, Option.some.injEq, Sum.inl.injEq, Sum.inr.injEq, true_or, or_true, and_self, q_sw]
    rw [ms_0 hR2]
    refine ⟨fun h => (by cases h), fun _ => ?_⟩
    rw [hq]
    exact ⟨hR2, fun h => (by cases h), hM2⟩
  have body : ∀ (S2 : qSt), ¬ ykd T (tx T n isb a) (tx T n isl (tx T n isb a)) = 0 → ytm k (ykd T (tx T n isb a) (tx T n isl (tx T n isb a))) Y = false → MD S2 T n (tx T n isb a) none → MR S2 Y → McQ S S2 → q_I S2 40 0 7 = nI k → AT 5 [some (.inr (.inr (40, 0))), some (.inl (mkd (ykd T (tx T n isb a) (tx T n isl (tx T n isb a))))), none, none] [] S2 := by
    intro S2 h0 h1 hR2 hM2 hQ2 h7
    have hkd := ykd_le T (tx T n isb a) (tx T n isl (tx T n isb a))
    have hcl2 : ycl T n k a Y = (psg T n 59 (ybd T n (tx T n isl (tx T n isb a)) Y (ykd T (tx T n isb a) (tx T n isl (tx T n isb a)))).1, (ybd T n (tx T n isl (tx T n isb a)) Y (ykd T (tx T n isb a) (tx T n isl (tx T n isb a)))).2) := by
      unfold ycl
      rw [if_neg h0, if_neg (by rw [h1]; decide)]
    rw [hcl2] at fin13
    clear hcl2 stop
    have hlt : (ykd T (tx T n isb a) (tx T n isl (tx T n isb a)) = 1 → Y 0 0 < 3) ∧ (ykd T (tx T n isb a) (tx T n isl (tx T n isb a)) = 2 → Y 1 0 < 6) := by
      unfold ytm at h1
      simp at h1
      omega
    refine step 40 [(13, [true, false, false, false])] 5 _ _ _ ?_
    simp only [q_vcs, q_vcc, q_vl, q_vu, ↓reduceIte, Nat.reduceEqDiff, Bool.false_eq_true, q_isc, q_mk, q_msk, zbX11_clause, q_pad, q_ent, q_get, q_put, q_nl, q_w, List.cons_append, List.nil_append, q_aks, q_als, Nat.reduceAdd, Nat.reduceLeDiff, Nat.zero_le, true_and, and_true, Option.some.injEq, Sum.inl.injEq, Sum.inr.injEq, true_or, or_true, and_self, q_sw]
    refine ⟨_, _, (by decide : 1 < 5), c_mskipWord l S2 hR2, fun S3 h3 => ?_⟩
    have h73 : q_I S3 40 0 7 = nI k := by rw [h3.2.1 7 (by decide)]; exact h7
    rw [h73, nI_1]
    have hM3 := mr_e hM2 h3.2
    have hQ4 : McQ S (q_wI S3 40 0 7 (nI (k + 1))) := by
      have := hQ2.e h3.2
      exact ⟨fun q hq => by rw [q_I_wI, if_neg (by omega)]; exact this.1 q hq, fr.wI this.2 (Or.inl rfl)⟩
    have hS4 : MS (q_wI S3 40 0 7 (nI (k + 1))) T n (.inl (tx T n isl (tx T n isb a))) := ms_w (s := .inl _) h3.1 (fun j hj => by rw [q_I_wI, if_neg (by omega)]) rfl
    have hM4 : MR (q_wI S3 40 0 7 (nI (k + 1))) Y := hM3.fr (F := F40) (fr40 fr.rf) (fun _ q => by cases q) (fun _ q => by cases q) (fun _ q => by cases q) (fun _ q => by cases q)
    have h74 : q_I (q_wI S3 40 0 7 (nI (k + 1))) 40 0 7 = nI (k + 1) := by rw [q_I_wI, if_pos ⟨rfl, rfl, rfl⟩]
    generalize q_wI S3 40 0 7 (nI (k + 1)) = S4 at *
    generalize ykd T (tx T n isb a) (tx T n isl (tx T n isb a)) = kd at *
    generalize tx T n isl (tx T n isb a) = c at *
    clear h1 h3 hR2 hM2 hQ2 h7 h73 hM3
    have hcase : kd = 1 ∨ kd = 2 ∨ kd = 3 ∨ kd = 4 := by omega
    rcases hcase with rfl | rfl | rfl | rfl
    · have h3' := hlt.1 rfl
      refine ⟨fun _ => ?_, fun h => absurd rfl h⟩
      rw [k0, hM4.1.1]
      refine ⟨v3 0 (by decide), _, _, (by decide : 2 < 5), c_mnumber l S4 (lo := 1) (h := 5) hS4 rfl (by decide) (by decide) (by decide), fun v S5 h5 => ?_⟩
      obtain ⟨hv, g1, g2⟩ := h5
      cases hv
      have hM5 := mr_e hM4 g2
      have h75 : q_I S5 40 0 7 = nI (k + 1) := by rw [g2.1 7 (by decide)]; exact h74
      have hQ5 := hQ4.e g2
      rw [i_cl (k := Y 0 0) (by omega)]
      refine ⟨i_in (by omega) (by decide), fun h => absurd h (by decide), fun _ => ?_⟩
      have f5 : ∀ w, q_I (q_wI S5 45 0 (Y 0 0) w) 40 0 5 = q_I S5 40 0 5 := fun w => rfl
      have f43 : ∀ w, q_I (q_wI S5 45 0 (Y 0 0) w) 43 0 0 = nI (Y 0 0) := fun w => hM5.1.1
      rw [show mkd 1 = (0 : Int32) from rfl, k0, f43, f5, ms_0 g1]
      refine ⟨v3 0 (by decide), fun hf => ?_, fun hf => ?_⟩
      · refine ⟨v3 0 (by decide), fin13 _ none none none (pnm T n 1 5 (.inl c)) Y (ms_w g1 (fun j hj => by rw [q_I_wI, if_neg (by omega), q_I_wI, if_neg (by omega)]) rfl) ((hQ5.w (by decide)).w (by decide)) rfl (fun h => absurd h hf) (by rw [q_I_wI, if_neg (by omega), q_I_wI, if_neg (by omega)]; exact h75)⟩
      · rw [if_pos hf, nI_1]
        refine ⟨v3 0 (by decide), fin13 _ none none none (pnm T n 1 5 (.inl c)) (yln Y (nmN T n c)) (ms_w g1 (fun j hj => by rw [q_I_wI, if_neg (by omega), q_I_wI, if_neg (by omega)]) rfl) ((hQ5.w (by decide)).w (by decide)) rfl (fun _ => ⟨?_, rfl⟩) (by rw [q_I_wI, if_neg (by omega), q_I_wI, if_neg (by omega)]; exact h75)⟩
        obtain ⟨⟨m0, m1, m2⟩, m3, m4, m5⟩ := hM5
        refine ⟨⟨?_, ?_, ?_⟩, fun q hq => ?_, fun q hq => ?_, fun q hq => ?_⟩
        · simp [q_I_wI, yln]
        · simp [q_I_wI, yln]; exact m1
        · simp [q_I_wI, yln]; exact m2
        · simp [yln] at hq ⊢
          rw [q_I_wI, if_neg (by omega), q_I_wI]
          by_cases e : q = Y 0 0
          · subst e; simp; rfl
          · rw [if_neg (by omega), if_neg e]; exact m3 q (by omega)
        · simp [yln] at hq ⊢
          exact m4 q hq
        · simp [yln]
          exact m5 q hq
    · have h3' := hlt.2 rfl
      refine ⟨fun h => absurd h (by decide), fun _ => ⟨fun _ => ?_, fun h => absurd rfl h⟩⟩
      rw [k0, k1, k2, hM4.1.2.1, i_cl (k := Y 1 0) (by omega)]
      refine ⟨v3 1 (by decide), i_in (by omega) (by decide), _, _, (by decide : 2 < 5), c_mnumber l S4 (lo := 1) (h := 3) hS4 rfl (by decide) (by decide) (by decide), fun v S5 h5 => ?_⟩
      obtain ⟨hv, g1, g2⟩ := h5
      cases hv
      refine ⟨v3 0 (by decide), _, _, (by decide : 2 < 5), c_mnumber l _ (lo := 0) (h := 100) (ms_w g1 (fun j hj => by rw [q_I_wI, if_neg (by omega)]) rfl) rfl (by decide) (by decide) (by decide), fun v S6 h6 => ?_⟩
      obtain ⟨hv, g3, g4⟩ := h6
      cases hv
      refine ⟨v3 1 (by decide), _, _, (by decide : 2 < 5), c_mnumber l _ (lo := 0) (h := 10) (ms_w g3 (fun j hj => by rw [q_I_wI, if_neg (by omega)]) rfl) rfl (by decide) (by decide) (by decide), fun v S7 h7 => ?_⟩
      obtain ⟨hv, g5, g6⟩ := h7
      cases hv
      refine ⟨v3 2 (by decide), fun h => absurd h (by decide), fun _ => ?_⟩
      have hQ7 : McQ S S7 := ((((hQ4.e g2).w (f := 50) (by decide)).e g4).w (f := 50) (by decide)).e g6
      have hfall : ∀ f i, f ≠ 40 → f ≠ 50 → q_I S7 f i = q_I S4 f i := fun f i h4 h5 => by
        rw [(g6.2 f i h4).1]
        have e1 : ∀ (Z : qSt) (v : Int32) (i1 j1 : Nat), q_I (q_wI Z 50 i1 j1 v) f i = q_I Z f i := fun Z v i1 j1 => by
          funext q
          rw [q_I_wI, if_neg (by omega)]
        rw [e1, (g4.2 f i h4).1, e1, (g2.2 f i h4).1]
      have h77 : q_I S7 40 0 7 = nI (k + 1) := by
        rw [g6.1 7 (by decide), q_I_wI, if_neg (by omega), g4.1 7 (by decide), q_I_wI, if_neg (by omega), g2.1 7 (by decide)]
        exact h74
      have f5 : ∀ i j w, q_I (q_wI S7 50 i j w) 40 0 5 = q_I S7 40 0 5 := fun i j w => rfl
      have f43 : ∀ i j w, q_I (q_wI S7 50 i j w) 43 0 1 = nI (Y 1 0) := fun i j w => by
        show q_I S7 43 0 1 = _
        rw [hfall 43 0 (by decide) (by decide)]
        exact hM4.1.2.1
      rw [show mkd 2 = (1 : Int32) from rfl, k1, f43, f5, ms_0 g5]
      refine ⟨v3 1 (by decide), fun hf => ?_, fun hf => ?_⟩
      · refine ⟨v3 1 (by decide), fin13 _ none none none _ Y (ms_w g5 (fun j hj => by rw [q_I_wI, if_neg (by omega), q_I_wI, if_neg (by omega)]) rfl) ((hQ7.w (by decide)).w (by decide)) rfl (fun h => absurd h hf) (by rw [q_I_wI, if_neg (by omega), q_I_wI, if_neg (by omega)]; exact h77)⟩
      · have hl2 := pnm_left hf
        have hl1 := pnm_left hl2
        rw [if_pos hf, if_pos hl2, if_pos hl1] at *
        rw [nI_1]
        refine ⟨v3 1 (by decide), fin13 _ none none none _ (ycr Y (nmN T n c) (pvl T n (pnm T n 1 3 (.inl c))) (pvl T n (pnm T n 0 100 (pnm T n 1 3 (.inl c))))) (ms_w g5 (fun j hj => by rw [q_I_wI, if_neg (by omega), q_I_wI, if_neg (by omega)]) rfl) ((hQ7.w (by decide)).w (by decide)) rfl (fun _ => ⟨?_, rfl⟩) (by rw [q_I_wI, if_neg (by omega), q_I_wI, if_neg (by omega)]; exact h77)⟩
        obtain ⟨⟨m0, m1, m2⟩, m3, m4, m5⟩ := hM4
        have x43 := hfall 43 0 (by decide) (by decide)
        have x45 := hfall 45 0 (by decide) (by decide)
        have x47 := hfall 47 0 (by decide) (by decide)
        have r0 : ∀ a b c, ycr Y a b c 0 0 = Y 0 0 := fun a b c => by simp [ycr]
        have r1 : ∀ a b c, ycr Y a b c 1 0 = Y 1 0 + 1 := fun a b c => by simp [ycr]
        have r2 : ∀ a b c, ycr Y a b c 2 0 = Y 2 0 := fun a b c => by simp [ycr]
        have r3 : ∀ a b c q, ycr Y a b c 3 q = Y 3 q := fun a b c q => by simp [ycr]
        refine ⟨⟨?_, ?_, ?_⟩, fun q hq => ?_, fun q hq => ?_, fun q hq => ?_⟩
        · rw [r0, q_I_wI, if_neg (by omega), q_I_wI, if_neg (by omega), x43]; exact m0
        · rw [r1, q_I_wI, if_pos ⟨rfl, rfl, rfl⟩]
        · rw [r2, q_I_wI, if_neg (by omega), q_I_wI, if_neg (by omega), x43]; exact m2
        · rw [r0] at hq
          rw [r3, q_I_wI, if_neg (by omega), q_I_wI, if_neg (by omega), x45]; exact m3 q hq
        · rw [r1] at hq
          by_cases e : q = Y 1 0
          · subst e
            have y0 : q_I S7 50 (Y 1 0) 0 = nI (nmN T n c) := by
              rw [(g6.2 50 _ (fun h => by cases h)).1, q_I_wI, if_neg (by omega), (g4.2 50 _ (fun h => by cases h)).1, q_I_wI, if_pos ⟨rfl, rfl, rfl⟩]
              rfl
            have y1 : q_I S7 50 (Y 1 0) 1 = nI (pvl T n (pnm T n 1 3 (.inl c))) := by
              rw [(g6.2 50 _ (fun h => by cases h)).1, q_I_wI, if_pos ⟨rfl, rfl, rfl⟩]
            refine ⟨?_, ?_, ?_⟩
            · rw [q_I_wI, if_neg (by omega), q_I_wI, if_neg (by omega), y0]; simp [ycr]
            · rw [q_I_wI, if_neg (by omega), q_I_wI, if_neg (by omega), y1]; simp [ycr]
            · rw [q_I_wI, if_neg (by omega), q_I_wI, if_pos ⟨rfl, rfl, rfl⟩]; simp [ycr]
          · have y : ∀ j, q_I S7 50 q j = q_I S4 50 q j := fun j => by
              rw [(g6.2 50 _ (fun h => by cases h)).1, q_I_wI, if_neg (by omega), (g4.2 50 _ (fun h => by cases h)).1, q_I_wI, if_neg (by omega), (g2.2 50 _ (fun h => by cases h)).1]
            have mm := m4 q (by omega)
            refine ⟨?_, ?_, ?_⟩
            · rw [q_I_wI, if_neg (by omega), q_I_wI, if_neg (by omega), y]; simp [ycr, e]; exact mm.1
            · rw [q_I_wI, if_neg (by omega), q_I_wI, if_neg (by omega), y]; simp [ycr, e]; exact mm.2.1
            · rw [q_I_wI, if_neg (by omega), q_I_wI, if_neg (by omega), y]; simp [ycr, e]; exact mm.2.2
        · rw [r1, q_I_wI, if_neg (by omega), q_I_wI, if_neg (by omega), x47, m5 q hq]
          by_cases e : q = Y 1 0
          · subst e
            simp [ycr]
          · by_cases e2 : q < Y 1 0
            · rw [if_pos e2, if_pos (by omega)]
              simp [ycr, e]
            · rw [if_neg e2, if_neg (by omega)]
    · refine ⟨fun h => absurd h (by decide), fun _ => ⟨fun h => absurd h (by decide), fun _ => ⟨fun h => absurd h (by decide), fun _ => ?_⟩⟩⟩
      rw [k1, hM4.1.2.1]
      refine ⟨v3 1 (by decide), _, _, (by decide : 2 < 5), c_mnumber l S4 (lo := 0) (h := Y 1 0) hS4 rfl rfl (by decide) (by omega), fun v S5 h5 => ?_⟩
      obtain ⟨hv, g1, g2⟩ := h5
      cases hv
      have hM5 := mr_e hM4 g2
      rw [hM5.1.2.1]
      refine ⟨v3 1 (by decide), _, _, (by decide : 2 < 5), c_mnumber l S5 (lo := 0) (h := Y 1 0) g1 rfl rfl (by decide) (by omega), fun v S6 h6 => ?_⟩
      obtain ⟨hv, g3, g4⟩ := h6
      cases hv
      have hM6 := mr_e hM5 g4
      have hQ6 := (hQ4.e g2).e g4
      have h76 : q_I S6 40 0 7 = nI (k + 1) := by rw [g4.1 7 (by decide), g2.1 7 (by decide)]; exact h74
      rw [ms_0 g3]
      refine ⟨fun hf => ⟨fun _ => fin13 _ none none none _ Y g3 hQ6 rfl (fun h => absurd h hf) h76, fun h => absurd (by decide) h⟩, fun hf => ?_⟩
      have hl1 := pnm_left hf
      have hvv : ∀ s : PS, (pnm T n 0 (Y 1 0) s).isLeft = true → pvl T n s < Y 1 0 := fun s hs => by
        cases s with
        | inr q => cases hs
        | inl x =>
          cases hp : pnm T n 0 (Y 1 0) (.inl x) with
          | inr q => rw [hp] at hs; cases hs
          | inl z => exact (nmN_lt hp).2
      have ho := hvv _ hl1
      have hm := hvv _ hf
      rw [if_pos hf, if_pos hl1]
      change nmN T n c < Y 1 0 at ho
      change _ ∧ _
      rw [show pvl T n (.inl c) = nmN T n c from rfl, i_cl (by omega), i_1sh _ (by omega), hM6.2.2.2 _ (by omega), if_pos ho, fa_or]
      refine ⟨i_in (by omega) (by decide), i_in (by omega) (by decide), fun _ => ?_, fun h => absurd (by decide) h⟩
      refine fin13 _ none none none _ (yky Y (nmN T n c) (pvl T n (pnm T n 0 (Y 1 0) (.inl c)))) (ms_w g3 (fun j hj => by rw [q_I_wI, if_neg (by omega)]) rfl) (hQ6.w (by decide)) rfl (fun _ => ⟨?_, rfl⟩) (by rw [q_I_wI, if_neg (by omega)]; exact h76)
      obtain ⟨⟨m0, m1, m2⟩, m3, m4, m5⟩ := hM6
      refine ⟨⟨m0, m1, m2⟩, m3, m4, fun q hq => ?_⟩
      rw [q_I_wI]
      by_cases e : q = nmN T n c
      · subst e
        simp [yky, ho]
      · rw [if_neg (by omega), m5 q hq]
        simp [yky, e]
    · refine ⟨fun h => absurd h (by decide), fun _ => ⟨fun h => absurd h (by decide), fun _ => ⟨fun _ => ?_, fun h => absurd rfl h⟩⟩⟩
      refine ⟨_, _, (by decide : 2 < 5), c_mnumber l S4 (lo := 0) (h := 41) hS4 rfl (by decide) (by decide) (by decide), fun v S5 h5 => ?_⟩
      obtain ⟨hv, g1, g2⟩ := h5
      cases hv
      have hM5 := mr_e hM4 g2
      have hQ5 := hQ4.e g2
      have h75 : q_I S5 40 0 7 = nI (k + 1) := by rw [g2.1 7 (by decide)]; exact h74
      rw [ms_0 g1, k2]
      refine ⟨fun hf => ⟨fun _ => fin13 _ none none none _ Y g1 hQ5 rfl (fun h => absurd h hf) h75, fun h => absurd (by decide) h⟩, fun hf => ?_⟩
      rw [if_pos hf]
      refine ⟨v3 2 (by decide), fun _ => ?_, fun h => absurd (by decide) h⟩
      refine fin13 _ none none none _ (ycs Y (nmN T n c)) (ms_w g1 (fun j hj => by rw [q_I_wI, if_neg (by omega)]) rfl) (hQ5.w (by decide)) rfl (fun _ => ⟨?_, rfl⟩) (by rw [q_I_wI, if_neg (by omega)]; exact h75)
      obtain ⟨⟨m0, m1, m2⟩, m3, m4, m5⟩ := hM5
      refine ⟨⟨?_, ?_, ?_⟩, fun q hq => ?_, fun q hq => ?_, fun q hq => ?_⟩
      · simp [q_I_wI, ycs]; exact m0
      · simp [q_I_wI, ycs]; exact m1
      · simp [q_I_wI, ycs]; rfl
      · simp [ycs] at hq ⊢; exact m3 q hq
      · simp [ycs] at hq ⊢; exact m4 q hq
      · simp [ycs]; exact m5 q hq
  refine step 40 [(4, [true, true, false, false]), (3, [true, true, false, false])] 0 _ _ _ ?_
  simp only [q_vcs, q_vcc, q_vl, q_vu, ↓reduceIte, Nat.reduceEqDiff, Bool.false_eq_true, q_isc, q_mk, q_msk, zbX11_clause, q_pad, q_ent, q_get, q_put, q_nl, q_w, List.cons_append, List.nil_append, q_aks, q_als, Nat.reduceAdd, Nat.reduceLeDiff, Nat.zero_le, true_and, and_true, Option.some.injEq, Sum.inl.injEq, Sum.inr.injEq, true_or, or_true, and_self, q_sw]
  refine ⟨_, _, (by decide : 4 < 5), c_mkindHere l S hR, fun v S1 h1 => ?_⟩
  obtain ⟨hv, h1⟩ := h1
  cases hv
  have hQ1 : McQ S S1 := ⟨fun j hj => h1.2.1 j (by omega), fyd_e h1.2⟩
  have hM1 := mr_e hMR h1.2
  have h71 : q_I S1 40 0 7 = nI k := by rw [h1.2.1 7 (by decide)]; exact hcl
  have hkd := ykd_le T (tx T n isb a) (tx T n isl (tx T n isb a))
  have to3 : ¬ ykd T (tx T n isb a) (tx T n isl (tx T n isb a)) = 0 → ytm k (ykd T (tx T n isb a) (tx T n isl (tx T n isb a))) Y = true → AT 3 [some (.inr (.inr (40, 0))), some (.inl (mkd (ykd T (tx T n isb a) (tx T n isl (tx T n isb a))))), none, none] [] S1 := by
    intro h0 ht
    refine step 40 [(4, [true, true, false, false])] 3 _ _ _ ?_
    simp only [q_vcs, q_vcc, q_vl, q_vu, ↓reduceIte, Nat.reduceEqDiff, Bool.false_eq_true, q_isc, q_mk, q_msk, zbX11_clause, q_pad, q_ent, q_get, q_put, q_nl, q_w, List.cons_append, List.nil_append, q_aks, q_als, Nat.reduceAdd, Nat.reduceLeDiff, Nat.zero_le, true_and, and_true, Option.some.injEq, Sum.inl.injEq, Sum.inr.injEq, true_or, or_true, and_self, q_sw]
    rw [h1.1.2.1.2.1]
    refine ⟨_, _, (by decide : 0 < 5), c_mwrong l S1 (k := 3) h1.1 (by decide) (by omega), fun S2 h2 => ?_⟩
    refine stop S2 (3, tx T n isb a) _ ?_ ⟨_, h2.1⟩ (hQ1.e h2.2)
    unfold ycl
    rw [if_neg h0, if_pos ht]
  have to4 : ¬ ykd T (tx T n isb a) (tx T n isl (tx T n isb a)) = 0 → ytm k (ykd T (tx T n isb a) (tx T n isl (tx T n isb a))) Y = false → AT 4 [some (.inr (.inr (40, 0))), some (.inl (mkd (ykd T (tx T n isb a) (tx T n isl (tx T n isb a))))), none, none] [] S1 := by
    intro h0 ht
    refine step 40 [(13, [true, false, false, false]), (5, [true, true, false, false])] 4 _ _ _ ?_
    simp only [q_vcs, q_vcc, q_vl, q_vu, ↓reduceIte, Nat.reduceEqDiff, Bool.false_eq_true, q_isc, q_mk, q_msk, zbX11_clause, q_pad, q_ent, q_get, q_put, q_nl, q_w, List.cons_append, List.nil_append, q_aks, q_als, Nat.reduceAdd, Nat.reduceLeDiff, Nat.zero_le, true_and, and_true, Option.some.injEq, Sum.inl.injEq, Sum.inr.injEq, true_or, or_true, and_self, q_sw]
    rw [mek_0 h1.1]
    exact ⟨fun _ => body S1 h0 ht h1.1 hM1 hQ1 h71, fun h => absurd rfl h⟩
  rw [k0, k1, h1.1.2.1.2.1, h71, hM1.1.1, hM1.1.2.1]
  have st0 : ykd T (tx T n isb a) (tx T n isl (tx T n isb a)) = 0 → ∀ S2, MD S2 T n (tx T n isb a) (fal none 1 (tx T n isb a)) ∧ ME S1 S2 → AT 4 [some (.inr (.inr (40, 0))), some (.inl (mkd (ykd T (tx T n isb a) (tx T n isl (tx T n isb a))))), none, none] [] S2 := by
    intro h0 S2 h2
    refine stop S2 (1, tx T n isb a) _ ?_ ⟨_, h2.1⟩ (hQ1.e h2.2)
    unfold ycl
    rw [if_pos h0]
  unfold ytm at to3 to4
  simp only [decide_eq_true_eq, decide_eq_false_iff_not] at to3 to4
  rw [show (60 : Int32) = nI 60 from rfl, show (3 : Int32) = nI 3 from rfl, show (6 : Int32) = nI 6 from rfl, nI_eq (by omega) (by decide), nI_eq (by omega) (by decide), nI_eq (by omega) (by decide)]
  have hcase : ykd T (tx T n isb a) (tx T n isl (tx T n isb a)) = 0 ∨ ykd T (tx T n isb a) (tx T n isl (tx T n isb a)) = 1 ∨ ykd T (tx T n isb a) (tx T n isl (tx T n isb a)) = 2 ∨ ykd T (tx T n isb a) (tx T n isl (tx T n isb a)) = 3 ∨ ykd T (tx T n isb a) (tx T n isl (tx T n isb a)) = 4 := by omega
  rcases hcase with e | e | e | e | e <;> rw [e] at to3 to4 st0 ⊢
  · refine ⟨fun h => absurd rfl h, fun _ => ⟨_, _, (by decide : 0 < 5), c_mwrong l S1 (k := 1) h1.1 (by decide) (by omega), fun S2 h2 => st0 rfl S2 h2⟩⟩
  · refine ⟨fun _ => ⟨fun h => to3 (by decide) (by omega), fun hc => ⟨fun h => absurd rfl h, fun _ => ⟨v3 0 (by decide), fun h => to3 (by decide) (by omega), fun h => ⟨fun _ => to4 (by decide) (by omega), fun h => absurd h (by decide)⟩⟩⟩⟩, fun h => absurd h (by decide)⟩
  · refine ⟨fun _ => ⟨fun h => to3 (by decide) (by omega), fun hc => ⟨fun _ => ⟨fun h => absurd rfl h, fun _ => ⟨v3 1 (by decide), fun h => to4 (by decide) (by omega), fun h => to3 (by decide) (by omega)⟩⟩, fun h => absurd h (by decide)⟩⟩, fun h => absurd h (by decide)⟩
  · refine ⟨fun _ => ⟨fun h => to3 (by decide) (by omega), fun hc => ⟨fun _ => ⟨fun _ => to4 (by decide) (by omega), fun h => absurd h (by decide)⟩, fun h => absurd h (by decide)⟩⟩, fun h => absurd h (by decide)⟩
  · refine ⟨fun _ => ⟨fun h => to3 (by decide) (by omega), fun hc => ⟨fun _ => ⟨fun _ => to4 (by decide) (by omega), fun h => absurd h (by decide)⟩, fun h => absurd h (by decide)⟩⟩, fun h => absurd h (by decide)⟩
