/-! the reference: the text of work -/
theorem c_mstepHere (l : Launch) (S : qSt) {T : Nat → Nat} {n a : Nat} (hR : MD S T n a none) : q_Met q_mt l 4 k_X11_stepHere 1 [.inr (.inr (40, 0))] S (fun r S' => r = some (.inl (oI (skd T (tx T n isb a) (tx T n isl (tx T n isb a))))) ∧ MD S' T n (tx T n isb a) none ∧ ME S S') := by
  refine q_meth zoX11_stepHere q_fos (Nat.le_of_ble_eq_true rfl) ?_
  intro AT step
  refine step 20 [] 0 _ _ _ ?_
  simp only [q_vcs, q_vcc, q_vl, q_vu, ↓reduceIte, Nat.reduceEqDiff, Bool.false_eq_true, q_isc, q_mk, q_msk, zbX11_stepHere, q_pad, q_ent, q_get, q_put, q_nl, q_w, List.cons_append, List.nil_append, q_aks, q_als, Nat.reduceAdd, Nat.reduceLeDiff, Nat.zero_le, true_and, and_true, Option.some.injEq, Sum.inl.injEq, Sum.inr.injEq, true_or, or_true, and_self, q_sw]
  have et := tx_tx T n isb a
  unfold skd
  refine ⟨_, _, (by decide : 3 < 4), c_misWord l S (i := 15) 16 1 18 11 0 0 hR (by decide) (by decide), fun v S1 h1 => ?_⟩
  obtain ⟨hv, h1⟩ := h1
  cases hv
  have hE1 := h1.2
  rw [bI_0]
  by_cases e0 : seg T (tx T n isb a) (tx T n isl (tx T n isb a)) = sw 15
  · rw [if_pos e0, decide_eq_true e0]
    exact ⟨fun h => (by cases h), fun _ => ⟨rfl, h1.1, hE1⟩⟩
  rw [if_neg e0, decide_eq_false e0]
  refine ⟨fun _ => ?_, fun h => absurd rfl h⟩
  refine ⟨_, _, (by decide : 3 < 4), c_misWord l S1 (i := 16) 13 15 22 5 0 0 h1.1 (by decide) (by decide), fun v S2 h2 => ?_⟩
  obtain ⟨hv, h2⟩ := h2
  cases hv
  rw [et] at h2
  rw [et]
  have hE2 := hE1.tr h2.2
  rw [bI_0]
  by_cases e1 : seg T (tx T n isb a) (tx T n isl (tx T n isb a)) = sw 16
  · rw [if_pos e1, decide_eq_true e1]
    exact ⟨fun h => (by cases h), fun _ => ⟨rfl, h2.1, hE2⟩⟩
  rw [if_neg e1, decide_eq_false e1]
  refine ⟨fun _ => ?_, fun h => absurd rfl h⟩
  refine ⟨_, _, (by decide : 3 < 4), c_misWord l S2 (i := 17) 12 5 1 22 5 0 h2.1 (by decide) (by decide), fun v S3 h3 => ?_⟩
  obtain ⟨hv, h3⟩ := h3
  cases hv
  rw [et] at h3
  rw [et]
  have hE3 := hE2.tr h3.2
  rw [bI_0]
  by_cases e2 : seg T (tx T n isb a) (tx T n isl (tx T n isb a)) = sw 17
  · rw [if_pos e2, decide_eq_true e2]
    exact ⟨fun h => (by cases h), fun _ => ⟨rfl, h3.1, hE3⟩⟩
  rw [if_neg e2, decide_eq_false e2]
  refine ⟨fun _ => ?_, fun h => absurd rfl h⟩
  refine ⟨_, _, (by decide : 3 < 4), c_misWord l S3 (i := 18) 19 23 1 16 0 0 h3.1 (by decide) (by decide), fun v S4 h4 => ?_⟩
  obtain ⟨hv, h4⟩ := h4
  cases hv
  rw [et] at h4
  rw [et]
  have hE4 := hE3.tr h4.2
  rw [bI_0]
  by_cases e3 : seg T (tx T n isb a) (tx T n isl (tx T n isb a)) = sw 18
  · rw [if_pos e3, decide_eq_true e3]
    exact ⟨fun h => (by cases h), fun _ => ⟨rfl, h4.1, hE4⟩⟩
  rw [if_neg e3, decide_eq_false e3]
  refine ⟨fun _ => ?_, fun h => absurd rfl h⟩
  refine ⟨_, _, (by decide : 3 < 4), c_misWord l S4 (i := 19) 1 7 1 9 14 0 h4.1 (by decide) (by decide), fun v S5 h5 => ?_⟩
  obtain ⟨hv, h5⟩ := h5
  cases hv
  rw [et] at h5
  rw [et]
  have hE5 := hE4.tr h5.2
  rw [bI_0]
  by_cases e4 : seg T (tx T n isb a) (tx T n isl (tx T n isb a)) = sw 19
  · rw [if_pos e4, decide_eq_true e4]
    exact ⟨fun h => (by cases h), fun _ => ⟨rfl, h5.1, hE5⟩⟩
  rw [if_neg e4, decide_eq_false e4]
  exact ⟨fun _ => ⟨rfl, h5.1, hE5⟩, fun h => absurd rfl h⟩
abbrev F64 : Nat → Nat → Prop := fun f _ => f = 40 ∨ f = 64
/-- but for fields 4 to 6, 8, 28 nothing of the object has changed -/
def MwQ (S S' : qSt) : Prop := (∀ j, ¬ (4 ≤ j ∧ j ≤ 6) → j ≠ 8 → j ≠ 28 → q_I S' 40 0 j = q_I S 40 0 j) ∧ fr F64 S S'
theorem MwQ.rf {S : qSt} : MwQ S S := ⟨fun _ _ _ _ => rfl, fr.rf⟩
theorem MwQ.tr {S S1 S2 : qSt} (h : MwQ S S1) (h2 : MwQ S1 S2) : MwQ S S2 := ⟨fun j a b c => (h2.1 j a b c).trans (h.1 j a b c), h.2.tr h2.2⟩
theorem MwQ.e {S S' : qSt} (h : ME S S') : MwQ S S' := ⟨fun j a _ _ => h.1 j a, h.2.mn fun f k h => Or.inl h⟩
theorem MwQ.w {S S1 : qSt} (h : MwQ S S1) {i j : Nat} {v : Int32} : MwQ S (q_wI S1 64 i j v) := ⟨fun q a b c => by rw [q_I_wI, if_neg (by omega)]; exact h.1 q a b c, fr.wI h.2 (Or.inr rfl)⟩
theorem my_w {S S' : qSt} {Y : YD} (h : MY S Y) (hQ : MwQ S S') : MY S' Y := h.fr hQ.2 (fun _ q => by omega) (fun _ q => by omega) (fun _ q => by omega) (fun _ q => by omega)
theorem ms_64 {S : qSt} {T : Nat → Nat} {n : Nat} {s : PS} (h : MS S T n s) {i j : Nat} {v : Int32} : MS (q_wI S 64 i j v) T n s := ms_w h (fun k hk => by rw [q_I_wI, if_neg (by omega)]) rfl
/-- what one step's reading leaves -/
def RmQ (T : Nat → Nat) (n : Nat) (Y : YD) (cd : List Tok) (o z : Nat) (u : PS × WF) (S S' : qSt) : Prop := MS S' T n (psg T n 59 u.1) ∧ (∀ b, psg T n 59 u.1 = .inl b → q_I S' 40 0 8 = nI o ∧ ∃ z', q_I S' 40 0 28 = nI z' ∧ z ≤ z' ∧ 4 * z' ≤ b ∧ RI Y cd (fun i q => q_I S' 64 i q) (6 - o) z z' u.2 ∧ ∀ i, i < z → q_I S' 64 i = q_I S 64 i) ∧ MwQ S S'
def RmC (l : Launch) (T : Nat → Nat) (n : Nat) (Y : YD) (cd : List Tok) (f : Nat) : Prop := ∀ (o a : Nat) (u : PS × WF) (S : qSt) (z : Nat), wp T n Y cd f 1 o a = some u → o ≤ 6 → MD S T n a none → q_I S 40 0 8 = nI o → q_I S 40 0 28 = nI z → 4 * z ≤ a → MY S Y → q_Met q_mt l (6 + (6 - o)) k_X11_readsStep 0 [.inr (.inr (40, 0))] S (fun _ S' => RmQ T n Y cd o z u S S')
set_option maxHeartbeats 4000000 in
theorem rm_step {l : Launch} {T : Nat → Nat} {n : Nat} {Y : YD} {cd : List Tok} (hY : y_ok Y) (hn : n ≤ 150) (f : Nat) (ih : ∀ g, g < f → RmC l T n Y cd g) : RmC l T n Y cd f := by
  intro o a u S z hu ho hR hop hst hza hM
  cases f with
  | zero => cases hu
  | succ f =>
  have h3 := hY.1
  have h6c := hY.2.1
  have hn6 := hR.1
  have hge := tx_ge T n isb a
  have hle : tx T n isb a ≤ n := tx_le hn6.2.1
  have hge2 := tx_ge T n isl (tx T n isb a)
  have hle2 : tx T n isl (tx T n isb a) ≤ n := tx_le hle
  have k0 : Int32.toNatClampNeg 0 = 0 := rfl
  have k1 : Int32.toNatClampNeg 1 = 1 := rfl
  have k2 : Int32.toNatClampNeg 2 = 2 := rfl
  have k3 : Int32.toNatClampNeg 3 = 3 := rfl
  have k4 : Int32.toNatClampNeg 4 = 4 := rfl
  have v3 : ∀ k, k < 3 → vp_in (nI k) 3 := fun k hk => i_in hk (by decide)
  have v5 : ∀ k, k < 5 → vp_in (nI k) 5 := fun k hk => i_in hk (by decide)
  have d4 : 4 < 6 + (6 - o) := by omega
  have d2 : 2 < 6 + (6 - o) := by omega
  have d1 : 1 < 6 + (6 - o) := by omega
  have d0 : 0 < 6 + (6 - o) := by omega
  refine q_meth zoX11_readsStep q_fos (Nat.le_of_ble_eq_true rfl) ?_
  intro AT step
  have at9 : ∀ (S5 : qSt) (x : Int32) (z' : Nat), MS S5 T n u.1 → q_I S5 40 0 28 = nI z' → MwQ S S5 → (∀ b, u.1 = .inl b → q_I S5 40 0 8 = nI o ∧ z ≤ z' ∧ 4 * z' ≤ b + 1 ∧ (∀ E' : Nat → Nat → Int32, (∀ i q, ¬ (i = z ∧ q = 4) → E' i q = q_I S5 64 i q) → E' z 4 = nI z' → RI Y cd E' (6 - o) z z' u.2) ∧ ∀ i, i < z → q_I S5 64 i = q_I S 64 i) → AT 9 [some (.inr (.inr (40, 0))), some (.inl x), some (.inr (.inr (64, z)))] [] S5 := by
    intro S5 x z' hM5 hz5 hQ5 hl5
    refine step 20 [] 9 _ _ _ ?_
    simp only [q_vcs, q_vcc, q_vl, q_vu, ↓reduceIte, Nat.reduceEqDiff, Bool.false_eq_true, q_isc, q_mk, q_msk, zbX11_readsStep, q_pad, q_ent, q_get, q_put, q_nl, q_w, List.cons_append, List.nil_append, q_aks, q_als, Nat.reduceAdd, Nat.reduceLeDiff, Nat.zero_le, true_and, and_true, Option.some.injEq, Sum.inl.injEq, Sum.inr.injEq, true_or, or_true, and_self, q_sw]
    rw [k4, hz5]
    refine ⟨v5 4 (by decide), _, _, d2, c_msign l _ (c := 59) (ms_64 hM5) (by decide), fun S6 h6 => ?_⟩
    refine ⟨h6.1, fun b hb => ?_, hQ5.w.tr (MwQ.e h6.2)⟩
    obtain ⟨b1, w1, w2, -⟩ := psg_lt hb
    obtain ⟨g1, g2, g3, g4, g5⟩ := hl5 b1 w1
    have e64 : ∀ i, q_I S6 64 i = q_I (q_wI S5 64 z 4 (nI z')) 64 i := fun i => (h6.2.2 64 i (fun q => by cases q)).1
    refine ⟨by rw [h6.2.1 8 (by decide)]; exact g1, z', by rw [h6.2.1 28 (by decide)]; exact hz5, g2, by omega, g4 _ (fun i q hiq => by rw [e64, q_I_wI, if_neg (by omega)]) (by rw [e64, q_I_wI, if_pos ⟨rfl, rfl, rfl⟩]), fun i hi => ?_⟩
    rw [e64]
    funext q
    rw [q_I_wI, if_neg (by omega), g5 i hi]
  have stop : ∀ (S2 : qSt) (q : Nat × Nat) (x : Int32), u.1 = .inr q → MS S2 T n (.inr q) → MwQ S S2 → AT 2 [some (.inr (.inr (40, 0))), some (.inl x), none] [] S2 := by
    intro S2 q x hq hR2 hQ2
    refine step 20 [(3, [true, true, false])] 2 _ _ _ ?_
    simp only [q_vcs, q_vcc, q_vl, q_vu, ↓reduceIte, Nat.reduceEqDiff, Bool.false_eq_true, q_isc, q_mk, q_msk, zbX11_readsStep, q_pad, q_ent, q_get, q_put, q_nl, q_w, List.cons_append, List.nil_append, q_aks, q_als, Nat.reduceAdd, Nat.reduceLeDiff, Nat.zero_le, true_and, and_true, Option.some.injEq, Sum.inl.injEq, Sum.inr.injEq, true_or, or_true, and_self, q_sw]
    rw [ms_0 hR2]
    refine ⟨fun h => (by cases h), fun _ => ?_⟩
    refine ⟨by rw [hq]; exact hR2, fun b hb => ?_, hQ2⟩
    rw [hq] at hb
    cases hb
  refine step 40 [(2, [true, true, false])] 0 _ _ _ ?_
  simp only [q_vcs, q_vcc, q_vl, q_vu, ↓reduceIte, Nat.reduceEqDiff, Bool.false_eq_true, q_isc, q_mk, q_msk, zbX11_readsStep, q_pad, q_ent, q_get, q_put, q_nl, q_w, List.cons_append, List.nil_append, q_aks, q_als, Nat.reduceAdd, Nat.reduceLeDiff, Nat.zero_le, true_and, and_true, Option.some.injEq, Sum.inl.injEq, Sum.inr.injEq, true_or, or_true, and_self, q_sw]
  refine ⟨_, _, d4, c_mstepHere l S hR, fun v S1 h1 => ?_⟩
  obtain ⟨hv, h1⟩ := h1
  cases hv
  have ho1 : q_I S1 40 0 8 = nI o := by rw [h1.2.1 8 (by decide)]; exact hop
  have hs1 : q_I S1 40 0 28 = nI z := by rw [h1.2.1 28 (by decide)]; exact hst
  have e1 : ∀ i, q_I S1 64 i = q_I S 64 i := fun i => (h1.2.2 64 i (fun q => by cases q)).1
  have hQ1 : MwQ S S1 := MwQ.e h1.2
  cases hs : skd T (tx T n isb a) (tx T n isl (tx T n isb a)) with
  | none =>
    rw [wp_1n hs] at hu
    cases hu
    rw [h1.1.2.1.2.1]
    refine ⟨fun h => absurd rfl h, fun _ => ?_⟩
    refine ⟨_, _, d0, c_mwrong l S1 (k := 1) h1.1 (by decide) (by omega), fun S2 h2 => ?_⟩
    refine ⟨fun _ => stop S2 _ _ rfl ⟨_, h2.1⟩ (hQ1.tr (MwQ.e h2.2)), fun h => absurd h (by decide)⟩
  | some k =>
    have hk4 := skd_lt hs
    refine ⟨fun _ => ?_, fun h => absurd h (i_ne1 (by omega))⟩
    rw [show oI (some k) = nI k from rfl, show (4 : Int32) = nI 4 from rfl, nI_eq (by omega) (by decide)]
    have at3 : ∀ (S2 : qSt) (o1 : Nat), MD S2 T n (tx T n isb a) none → MwQ S S2 → q_I S2 40 0 28 = nI z → q_I S2 40 0 8 = nI o1 → (∀ i, q_I S2 64 i = q_I S 64 i) → (k ≠ 4 → o1 = o) → (k = 4 → o1 = o + 1 ∧ o < 6) → AT 3 [some (.inr (.inr (40, 0))), some (.inl (nI k)), none] [] S2 := by
      intro S2 o1 hR2 hQ2 hs2 ho2 he2 hk4n hk4y
      refine step 40 [(9, [true, true, true]), (7, [true, true, true])] 3 _ _ _ ?_
      simp only [q_vcs, q_vcc, q_vl, q_vu, ↓reduceIte, Nat.reduceEqDiff, Bool.false_eq_true, q_isc, q_mk, q_msk, zbX11_readsStep, q_pad, q_ent, q_get, q_put, q_nl, q_w, List.cons_append, List.nil_append, q_aks, q_als, Nat.reduceAdd, Nat.reduceLeDiff, Nat.zero_le, true_and, and_true, Option.some.injEq, Sum.inl.injEq, Sum.inr.injEq, true_or, or_true, and_self, q_sw]
      refine ⟨_, _, d1, c_mskipWord l S2 hR2, fun S3 h3 => ?_⟩
      have hs3 : q_I S3 40 0 28 = nI z := by rw [h3.2.1 28 (by decide)]; exact hs2
      rw [hs3, nI_1, i_cl (by omega), k0]
      have hS35 : MS (q_wI S3 40 0 28 (nI (z + 1))) T n (.inl (tx T n isl (tx T n isb a))) := ms_w (S := S3) (s := .inl _) h3.1 (fun j hj => by rw [q_I_wI, if_neg (by omega)]) rfl
      have hS4 : MS (q_wI (q_wI S3 40 0 28 (nI (z + 1))) 64 z 0 (nI k)) T n (.inl (tx T n isl (tx T n isb a))) := ms_64 hS35
      have hQ4 : MwQ S (q_wI (q_wI S3 40 0 28 (nI (z + 1))) 64 z 0 (nI k)) := by
        have hq := hQ2.tr (MwQ.e h3.2)
        exact MwQ.w ⟨fun j a b c => by rw [q_I_wI, if_neg (by omega)]; exact hq.1 j a b c, fr.wI hq.2 (Or.inl rfl)⟩
      have h28 : q_I (q_wI (q_wI S3 40 0 28 (nI (z + 1))) 64 z 0 (nI k)) 40 0 28 = nI (z + 1) := by rw [q_I_wI, if_neg (by omega), q_I_wI, if_pos ⟨rfl, rfl, rfl⟩]
      have h8 : q_I (q_wI (q_wI S3 40 0 28 (nI (z + 1))) 64 z 0 (nI k)) 40 0 8 = nI o1 := by rw [q_I_wI, if_neg (by omega), q_I_wI, if_neg (by omega), h3.2.1 8 (by decide)]; exact ho2
      have h64 : ∀ i, i ≠ z → q_I (q_wI (q_wI S3 40 0 28 (nI (z + 1))) 64 z 0 (nI k)) 64 i = q_I S 64 i := fun i hi => by
        funext q
        rw [q_I_wI, if_neg (by omega), q_I_wI, if_neg (by omega), (h3.2.2 64 i (fun q => by cases q)).1, he2 i]
      have hz0 : q_I (q_wI (q_wI S3 40 0 28 (nI (z + 1))) 64 z 0 (nI k)) 64 z 0 = nI k := by rw [q_I_wI, if_pos ⟨rfl, rfl, rfl⟩]
      generalize q_wI (q_wI S3 40 0 28 (nI (z + 1))) 64 z 0 (nI k) = S4 at *
      have hM4 := my_w hM hQ4
      have t0 : q_I S4 44 0 0 = nI (Y 0 0) := hM4.1
      have t1 : q_I S4 44 0 1 = nI (Y 1 0) := hM4.2.1
      /- reading on, with rows of z written -/
      have pl : ∀ (S5 : qSt) (s : PS) (aa bb cc : Nat) (hk : k ≤ 3), MS S5 T n s → MwQ S S5 → (∀ j, ¬ (4 ≤ j ∧ j ≤ 6) → q_I S5 40 0 j = q_I S4 40 0 j) → (∀ i, i ≠ z → q_I S5 64 i = q_I S 64 i) → u = (s, stf Y cd k aa bb cc) ∨ (∃ q, s = .inr q ∧ u.1 = s) → (s.isLeft = true → sok Y k aa bb cc ∧ q_I S5 64 z 0 = nI k ∧ (k ≤ 1 → q_I S5 64 z 1 = nI aa) ∧ (k ≤ 2 → q_I S5 64 z 2 = nI bb) ∧ (k = 1 → q_I S5 64 z 3 = nI cc)) → (∀ b, s = .inl b → tx T n isl (tx T n isb a) ≤ b) → AT 9 [some (.inr (.inr (40, 0))), some (.inl (nI k)), some (.inr (.inr (64, z)))] [] S5 := by
        intro S5 s aa bb cc hk hM5 hQ5 hf5 h645 hu5 hok hpos
        have hus : u.1 = s := by
          rcases hu5 with h | ⟨q, -, h⟩
          · rw [h]
          · exact h
        refine at9 S5 _ (z + 1) (by rw [hus]; exact hM5) (by rw [hf5 28 (by decide)]; exact h28) hQ5 (fun b hb => ?_)
        rw [hus] at hb
        obtain ⟨q1, q2, q3, q4, q5⟩ := hok (isL hb)
        have hp := hpos b hb
        refine ⟨by rw [hf5 8 (by decide), h8, hk4n (by omega)], by omega, by omega, fun E' he hz4 => ?_, fun i hi => h645 i (by omega)⟩
        have hu2 : u.2 = stf Y cd k aa bb cc := by
          rcases hu5 with h | ⟨q, h, -⟩
          · rw [h]
          · rw [hb] at h; cases h
        rw [hu2]
        exact RI.one (by rw [he z 0 (by omega)]; exact q2) hk (fun h => by rw [he z 1 (by omega)]; exact q3 h) (fun h => by rw [he z 2 (by omega)]; exact q4 h) (fun h => by rw [he z 3 (by omega)]; exact q5 h) hz4 (by omega) q1
      have hcase : k = 0 ∨ k = 1 ∨ k = 2 ∨ k = 3 ∨ k = 4 := by omega
      rcases hcase with rfl | rfl | rfl | rfl | rfl
      · rw [wp_1k hs (by decide)] at hu
        cases hu
        rw [k1, t1]
        refine ⟨i_in (by omega) (by decide), v5 0 (by decide), fun h => absurd h (by decide), fun _ => ⟨v3 1 (by decide), ?_⟩⟩
        refine ⟨_, _, d2, c_mnumber l S4 (lo := 0) (h := Y 1 0) hS4 rfl rfl (by decide) (by omega), fun v S5 h5 => ?_⟩
        obtain ⟨hv, g1, g2⟩ := h5
        cases hv
        have t05 : ∀ w, q_I (q_wI S5 64 z 1 w) 44 0 0 = nI (Y 0 0) := fun w => by
          show q_I S5 44 0 0 = _
          rw [(g2.2 44 0 (fun q => by cases q)).1]; exact t0
        rw [t05]
        refine ⟨v5 1 (by decide), fun h => absurd h (by decide), fun _ => ⟨v3 0 (by decide), ?_⟩⟩
        refine ⟨_, _, d2, c_mnumber l _ (lo := 0) (h := Y 0 0) (ms_64 g1) rfl rfl (by decide) (by omega), fun v S6 h6 => ?_⟩
        obtain ⟨hv, g3, g4⟩ := h6
        cases hv
        rw [k2]
        refine ⟨v5 2 (by decide), fun _ => ⟨fun _ => ?_, fun h => absurd h (by decide)⟩, fun h => absurd h (by decide)⟩
        refine pl _ (pnm T n 0 (Y 0 0) (pnm T n 0 (Y 1 0) (.inl (tx T n isl (tx T n isb a))))) (nmN T n (tx T n isl (tx T n isb a))) (pvl T n (pnm T n 0 (Y 1 0) (.inl (tx T n isl (tx T n isb a))))) 0 (by decide) (ms_64 g3) ((hQ4.tr (MwQ.e g2)).w.tr (MwQ.e g4)).w (fun j hj => ?_) (fun i hi => ?_) (Or.inl rfl) (fun hl => ?_) (fun b hb => (sbd_lt (T := T) (n := n) (Y := Y) (cd := cd) (k := 0) (by decide) hle2 hb).1)
        · rw [q_I_wI, if_neg (by omega), g4.1 j hj, q_I_wI, if_neg (by omega), g2.1 j hj]
        · funext q
          rw [q_I_wI, if_neg (by omega), (g4.2 64 i (fun q => by cases q)).1, q_I_wI, if_neg (by omega), (g2.2 64 i (fun q => by cases q)).1, h64 i hi]
        · have l1 := pnm_left hl
          have b2 : pvl T n (pnm T n 0 (Y 1 0) (.inl (tx T n isl (tx T n isb a)))) < Y 0 0 := by
            cases hp : pnm T n 0 (Y 1 0) (.inl (tx T n isl (tx T n isb a))) with
            | inr q => rw [hp] at l1; cases l1
            | inl b1 =>
              rw [hp] at hl
              cases hp2 : pnm T n 0 (Y 0 0) (.inl b1) with
              | inr q => rw [hp2] at hl; cases hl
              | inl b2 => exact (nmN_lt hp2).2
          have b1 : nmN T n (tx T n isl (tx T n isb a)) < Y 1 0 := by
            cases hp : pnm T n 0 (Y 1 0) (.inl (tx T n isl (tx T n isb a))) with
            | inr q => rw [hp] at l1; cases l1
            | inl b1 => exact (nmN_lt hp).2
          rw [if_pos l1, if_pos hl] at *
          refine ⟨⟨fun _ => b1, fun _ => b2, fun h => (by cases h)⟩, ?_, fun _ => ?_, fun _ => ?_, fun h => (by cases h)⟩
          · rw [q_I_wI, if_neg (by omega), (g4.2 64 z (fun q => by cases q)).1, q_I_wI, if_neg (by omega), (g2.2 64 z (fun q => by cases q)).1]; exact hz0
          · rw [q_I_wI, if_neg (by omega), (g4.2 64 z (fun q => by cases q)).1, q_I_wI, if_pos ⟨rfl, rfl, rfl⟩]; rfl
          · rw [q_I_wI, if_pos ⟨rfl, rfl, rfl⟩]
      · rw [wp_1k hs (by decide)] at hu
        cases hu
        rw [k1, t1]
        refine ⟨i_in (by omega) (by decide), v5 0 (by decide), fun h => absurd h (by decide), fun _ => ⟨v3 1 (by decide), ?_⟩⟩
        refine ⟨_, _, d2, c_mnumber l S4 (lo := 0) (h := Y 1 0) hS4 rfl rfl (by decide) (by omega), fun v S5 h5 => ?_⟩
        obtain ⟨hv, g1, g2⟩ := h5
        cases hv
        have t05 : ∀ w, q_I (q_wI S5 64 z 1 w) 44 0 0 = nI (Y 0 0) := fun w => by
          show q_I S5 44 0 0 = _
          rw [(g2.2 44 0 (fun q => by cases q)).1]; exact t0
        rw [t05]
        refine ⟨v5 1 (by decide), fun h => absurd h (by decide), fun _ => ⟨v3 0 (by decide), ?_⟩⟩
        refine ⟨_, _, d2, c_mnumber l _ (lo := 0) (h := Y 0 0) (ms_64 g1) rfl rfl (by decide) (by omega), fun v S6 h6 => ?_⟩
        obtain ⟨hv, g3, g4⟩ := h6
        cases hv
        have t06 : ∀ w, q_I (q_wI S6 64 z 2 w) 44 0 0 = nI (Y 0 0) := fun w => by
          show q_I S6 44 0 0 = _
          rw [(g4.2 44 0 (fun q => by cases q)).1]; exact t05 _
        rw [k2, t06]
        refine ⟨v5 2 (by decide), fun h => absurd rfl h, fun _ => ⟨v3 0 (by decide), ?_⟩⟩
        refine ⟨_, _, d2, c_mnumber l _ (lo := 0) (h := Y 0 0) (ms_64 g3) rfl rfl (by decide) (by omega), fun v S7 h7 => ?_⟩
        obtain ⟨hv, g5, g6⟩ := h7
        cases hv
        rw [k3]
        refine ⟨v5 3 (by decide), fun _ => ?_, fun h => absurd h (by decide)⟩
        refine pl _ (pnm T n 0 (Y 0 0) (pnm T n 0 (Y 0 0) (pnm T n 0 (Y 1 0) (.inl (tx T n isl (tx T n isb a)))))) (nmN T n (tx T n isl (tx T n isb a))) (pvl T n (pnm T n 0 (Y 1 0) (.inl (tx T n isl (tx T n isb a))))) (pvl T n (pnm T n 0 (Y 0 0) (pnm T n 0 (Y 1 0) (.inl (tx T n isl (tx T n isb a)))))) (by decide) (ms_64 g5) (((hQ4.tr (MwQ.e g2)).w.tr (MwQ.e g4)).w.tr (MwQ.e g6)).w (fun j hj => ?_) (fun i hi => ?_) (Or.inl rfl) (fun hl => ?_) (fun b hb => (sbd_lt (T := T) (n := n) (Y := Y) (cd := cd) (k := 1) (by decide) hle2 hb).1)
        · rw [q_I_wI, if_neg (by omega), g6.1 j hj, q_I_wI, if_neg (by omega), g4.1 j hj, q_I_wI, if_neg (by omega), g2.1 j hj]
        · funext q
          rw [q_I_wI, if_neg (by omega), (g6.2 64 i (fun q => by cases q)).1, q_I_wI, if_neg (by omega), (g4.2 64 i (fun q => by cases q)).1, q_I_wI, if_neg (by omega), (g2.2 64 i (fun q => by cases q)).1, h64 i hi]
        · have l2 := pnm_left hl
          have l1 := pnm_left l2
          have pv : ∀ (h : Nat) (s : PS), (pnm T n 0 h s).isLeft = true → pvl T n s < h := fun h s hs => by
            cases s with
            | inr q => cases hs
            | inl x =>
              cases hp : pnm T n 0 h (.inl x) with
              | inr q => rw [hp] at hs; cases hs
              | inl b1 => exact (nmN_lt hp).2
          have b1 : nmN T n (tx T n isl (tx T n isb a)) < Y 1 0 := pv _ _ l1
          rw [if_pos l1, if_pos l2, if_pos hl] at *
          refine ⟨⟨fun _ => b1, fun _ => pv _ _ l2, fun _ => pv _ _ hl⟩, ?_, fun _ => ?_, fun _ => ?_, fun _ => ?_⟩
          · rw [q_I_wI, if_neg (by omega), (g6.2 64 z (fun q => by cases q)).1, q_I_wI, if_neg (by omega), (g4.2 64 z (fun q => by cases q)).1, q_I_wI, if_neg (by omega), (g2.2 64 z (fun q => by cases q)).1]; exact hz0
          · rw [q_I_wI, if_neg (by omega), (g6.2 64 z (fun q => by cases q)).1, q_I_wI, if_neg (by omega), (g4.2 64 z (fun q => by cases q)).1, q_I_wI, if_pos ⟨rfl, rfl, rfl⟩]; rfl
          · rw [q_I_wI, if_neg (by omega), (g6.2 64 z (fun q => by cases q)).1, q_I_wI, if_pos ⟨rfl, rfl, rfl⟩]
          · rw [q_I_wI, if_pos ⟨rfl, rfl, rfl⟩]
      · rw [wp_1k hs (by decide)] at hu
        cases hu
        rw [t0]
        refine ⟨i_in (by omega) (by decide), v5 0 (by decide), fun _ => ⟨fun h => absurd h (by decide), fun _ => ⟨v3 0 (by decide), ?_⟩⟩, fun h => absurd (by decide) h⟩
        refine ⟨_, _, d2, c_mnumber l S4 (lo := 0) (h := Y 0 0) hS4 rfl rfl (by decide) (by omega), fun v S5 h5 => ?_⟩
        obtain ⟨hv, g1, g2⟩ := h5
        cases hv
        rw [k2]
        refine ⟨v5 2 (by decide), fun _ => ⟨fun _ => ?_, fun h => absurd h (by decide)⟩, fun h => absurd h (by decide)⟩
        refine pl _ (pnm T n 0 (Y 0 0) (.inl (tx T n isl (tx T n isb a)))) 0 (nmN T n (tx T n isl (tx T n isb a))) 0 (by decide) (ms_64 g1) (hQ4.tr (MwQ.e g2)).w (fun j hj => ?_) (fun i hi => ?_) (Or.inl rfl) (fun hl => ?_) (fun b hb => (sbd_lt (T := T) (n := n) (Y := Y) (cd := cd) (k := 2) (by decide) hle2 hb).1)
        · rw [q_I_wI, if_neg (by omega), g2.1 j hj]
        · funext q
          rw [q_I_wI, if_neg (by omega), (g2.2 64 i (fun q => by cases q)).1, h64 i hi]
        · have b2 : nmN T n (tx T n isl (tx T n isb a)) < Y 0 0 := by
            cases hp : pnm T n 0 (Y 0 0) (.inl (tx T n isl (tx T n isb a))) with
            | inr q => rw [hp] at hl; cases hl
            | inl b1 => exact (nmN_lt hp).2
          rw [if_pos hl] at *
          refine ⟨⟨fun h => (by omega), fun _ => b2, fun h => (by cases h)⟩, ?_, fun h => (by omega), fun _ => ?_, fun h => (by cases h)⟩
          · rw [q_I_wI, if_neg (by omega), (g2.2 64 z (fun q => by cases q)).1]; exact hz0
          · rw [q_I_wI, if_pos ⟨rfl, rfl, rfl⟩]; rfl
      · rw [wp_1k hs (by decide)] at hu
        cases hu
        refine ⟨i_in (by omega) (by decide), v5 0 (by decide), fun _ => ⟨fun _ => ⟨fun _ => ⟨fun _ => ?_, fun h => absurd h (by decide)⟩, fun h => absurd h (by decide)⟩, fun h => absurd (by decide) h⟩, fun h => absurd (by decide) h⟩
        refine pl _ (.inl (tx T n isl (tx T n isb a))) 0 0 0 (by decide) hS4 hQ4 (fun j hj => rfl) h64 (Or.inl rfl) (fun _ => ?_) (fun b hb => by cases hb; exact Nat.le_refl _)
        exact ⟨⟨fun h => (by omega), fun h => (by omega), fun h => (by cases h)⟩, hz0, fun h => (by omega), fun h => (by omega), fun h => (by cases h)⟩
      · obtain ⟨ho1', h6⟩ := hk4y rfl
        rw [wp_1a hs (by omega)] at hu
        refine ⟨i_in (by omega) (by decide), v5 0 (by decide), fun _ => ⟨fun _ => ⟨fun _ => ⟨fun h => absurd rfl h, fun _ => ?_⟩, fun h => absurd h (by decide)⟩, fun h => absurd (by decide) h⟩, fun h => absurd (by decide) h⟩
        refine ⟨_, _, d2, c_mnumber l S4 (lo := 0) (h := 31) hS4 rfl (by decide) (by decide) (by decide), fun v S5 h5 => ?_⟩
        obtain ⟨hv, g1, g2⟩ := h5
        cases hv
        rw [k1]
        refine ⟨v5 1 (by decide), _, _, d2, c_msign l _ (c := 91) (ms_64 g1) (by decide), fun S6 g3 => ?_⟩
        have hQ6 : MwQ S S6 := (hQ4.tr (MwQ.e g2)).w.tr (MwQ.e g3.2)
        have h286 : q_I S6 40 0 28 = nI (z + 1) := by rw [g3.2.1 28 (by decide), q_I_wI, if_neg (by omega), g2.1 28 (by decide)]; exact h28
        have h86 : q_I S6 40 0 8 = nI (o + 1) := by rw [g3.2.1 8 (by decide), q_I_wI, if_neg (by omega), g2.1 8 (by decide), h8, ho1']
        have h646 : ∀ i, i ≠ z → q_I S6 64 i = q_I S 64 i := fun i hi => by
          rw [(g3.2.2 64 i (fun q => by cases q)).1]
          funext q
          rw [q_I_wI, if_neg (by omega), (g2.2 64 i (fun q => by cases q)).1, h64 i hi]
        have hz06 : q_I S6 64 z 0 = nI 4 := by rw [(g3.2.2 64 z (fun q => by cases q)).1, q_I_wI, if_neg (by omega), (g2.2 64 z (fun q => by cases q)).1]; exact hz0
        have hz16 : (pnm T n 0 31 (.inl (tx T n isl (tx T n isb a)))).isLeft = true → q_I S6 64 z 1 = nI (nmN T n (tx T n isl (tx T n isb a))) := fun hl => by
          rw [(g3.2.2 64 z (fun q => by cases q)).1, q_I_wI, if_pos ⟨rfl, rfl, rfl⟩, if_pos hl]
          rfl
        /- block 7: the steps in brackets -/
        have fin8 : ∀ (S7 : qSt) (v : PS × WF) (z7 : Nat), MS S7 T n v.1 → MwQ S S7 → q_I S7 40 0 28 = nI z7 → (∀ b, v.1 = .inl b → (pnm T n 0 31 (.inl (tx T n isl (tx T n isb a)))).isLeft = true ∧ q_I S7 40 0 8 = nI (o + 1) ∧ z + 1 ≤ z7 ∧ 4 * z7 ≤ b ∧ RI Y cd (fun i q => q_I S7 64 i q) (6 - (o + 1)) (z + 1) z7 v.2 ∧ (∀ i, i < z → q_I S7 64 i = q_I S 64 i) ∧ q_I S7 64 z 0 = nI 4 ∧ q_I S7 64 z 1 = nI (nmN T n (tx T n isl (tx T n isb a)))) → u.1 = psg T n 93 v.1 → (u.1.isLeft = true → u.2 = agf (nmN T n (tx T n isl (tx T n isb a))) v.2) → AT 8 [some (.inr (.inr (40, 0))), some (.inl (nI 4)), some (.inr (.inr (64, z)))] [] S7 := by
          intro S7 v z7 hM7 hQ7 hz7 hl7 hu1 hu2
          refine step 40 [(9, [true, true, true])] 8 _ _ _ ?_
          simp only [q_vcs, q_vcc, q_vl, q_vu, ↓reduceIte, Nat.reduceEqDiff, Bool.false_eq_true, q_isc, q_mk, q_msk, zbX11_readsStep, q_pad, q_ent, q_get, q_put, q_nl, q_w, List.cons_append, List.nil_append, q_aks, q_als, Nat.reduceAdd, Nat.reduceLeDiff, Nat.zero_le, true_and, and_true, Option.some.injEq, Sum.inl.injEq, Sum.inr.injEq, true_or, or_true, and_self, q_sw]
          refine ⟨_, _, d2, c_msign l S7 (c := 93) hM7 (by decide), fun S8 g8 => ?_⟩
          rw [← hu1] at g8
          refine at9 _ _ z7 (ms_w g8.1 (fun j hj => by rw [q_I_wI, if_neg (by omega)]) rfl) (by rw [q_I_wI, if_neg (by omega), g8.2.1 28 (by decide)]; exact hz7) (by
            have hq := hQ7.tr (MwQ.e g8.2)
            exact ⟨fun j a b c => by rw [q_I_wI, if_neg (by omega)]; exact hq.1 j a b c, fr.wI hq.2 (Or.inl rfl)⟩) (fun b hb => ?_)
          have hl := isL hb
          rw [hu1] at hb
          obtain ⟨b1, w1, w2, -⟩ := psg_lt hb
          obtain ⟨q0, q1, q2, q3, q4, q5, q6, q7⟩ := hl7 b1 w1
          have e64 : ∀ i, q_I S8 64 i = q_I S7 64 i := fun i => (g8.2.2 64 i (fun q => by cases q)).1
          have hz80 : z7 ≤ 80 := by
            have := hM7
            rw [w1] at this
            have := (show MD S7 T n b1 none from this).1
            omega
          have hN : nmN T n (tx T n isl (tx T n isb a)) ≤ 30 := by
            cases hp : pnm T n 0 31 (.inl (tx T n isl (tx T n isb a))) with
            | inr q => rw [hp] at q0; cases q0
            | inl b1 => have := (nmN_lt hp).2; omega
          refine ⟨?_, by omega, by omega, fun E' he hz4 => ?_, fun i hi => ?_⟩
          · rw [q_I_wI, if_pos ⟨rfl, rfl, rfl⟩, g8.2.1 8 (by decide), q1, i_m1]
          · rw [hu2 hl]
            have hE : ∀ i q, ¬ (i = z ∧ q = 4) → E' i q = q_I S7 64 i q := fun i q hiq => by
              rw [he i q hiq]
              show q_I S8 64 i q = _
              rw [e64]
            have h6o : 6 - o = (6 - (o + 1)) + 1 := by omega
            rw [h6o]
            exact RI.ag (by rw [hE z 0 (by omega)]; exact q6) (by rw [hE z 1 (by omega)]; exact q7) hN hz4 (by omega) hz80 (q4.cong fun i q h1 h2 => hE i q (by omega))
          · show q_I S8 64 i = _
            rw [e64, q5 i hi]
        have loop : ∀ (g : Nat), g ≤ f → ∀ (b z7 : Nat) (S7 : qSt) (Xa : WF) (w : PS × WF), wp T n Y cd g 0 (o + 1) b = some w → (pnm T n 0 31 (.inl (tx T n isl (tx T n isb a)))).isLeft = true → MD S7 T n (tx T n isb b) none → MwQ S S7 → q_I S7 40 0 28 = nI z7 → q_I S7 40 0 8 = nI (o + 1) → z + 1 ≤ z7 → 4 * z7 ≤ b → RI Y cd (fun i q => q_I S7 64 i q) (6 - (o + 1)) (z + 1) z7 Xa → (∀ i, i < z → q_I S7 64 i = q_I S 64 i) → q_I S7 64 z 0 = nI 4 → q_I S7 64 z 1 = nI (nmN T n (tx T n isl (tx T n isb a))) → u.1 = psg T n 93 w.1 → (u.1.isLeft = true → u.2 = agf (nmN T n (tx T n isl (tx T n isb a))) (fun s => w.2 (Xa s))) → AT 7 [some (.inr (.inr (40, 0))), some (.inl (nI 4)), some (.inr (.inr (64, z)))] [] S7 := by
          intro g
          induction g with
          | zero => intro _ b z7 S7 Xa w hw; cases hw
          | succ g ihg =>
            intro hg b z7 S7 Xa w hw hpl hM7 hQ7 hz7 ho7 hzz hzb hri h640 h6z0 h6z1 hu1 hu2
            have hgb := tx_ge T n isb b
            have hn7 := hM7.1
            refine step 40 [(7, [true, true, true]), (8, [true, true, true])] 7 _ _ _ ?_
            simp only [q_vcs, q_vcc, q_vl, q_vu, ↓reduceIte, Nat.reduceEqDiff, Bool.false_eq_true, q_isc, q_mk, q_msk, zbX11_readsStep, q_pad, q_ent, q_get, q_put, q_nl, q_w, List.cons_append, List.nil_append, q_aks, q_als, Nat.reduceAdd, Nat.reduceLeDiff, Nat.zero_le, true_and, and_true, Option.some.injEq, Sum.inl.injEq, Sum.inr.injEq, true_or, or_true, and_self, q_sw]
            rw [mek_0 hM7, hM7.2.1.2.1]
            refine ⟨fun h => absurd rfl h, fun _ => ?_⟩
            refine q_u1 d0 (c_mbyteAt l S7 (k := tx T n isb b) hM7 (by omega)) ?_
            rw [show (93 : Int32) = nI 93 from rfl, mhr_eq hM7 (by decide)]
            have hsen : sen T n (o + 1) (tx T n isb b) = decide (hr T n (tx T n isb b) = some 93) := by unfold sen; rw [if_neg (by omega)]
            refine ⟨fun h93 => ?_, fun h93 => ?_⟩
            · rw [wp_0e (by rw [hsen]; exact decide_eq_true h93)] at hw
              cases hw
              refine fin8 S7 (.inl (tx T n isb b), Xa) z7 hM7 hQ7 hz7 (fun b' hb' => ?_) hu1 hu2
              cases hb'
              exact ⟨hpl, ho7, hzz, by omega, hri, h640, h6z0, h6z1⟩
            · rw [wp_0s (by rw [hsen]; simp [h93])] at hw
              have key : ∃ v, wp T n Y cd g 1 (o + 1) (tx T n isb b) = some v ∧ (∀ q, psg T n 59 v.1 = .inr q → w.1 = .inr q) ∧ (∀ b2, psg T n 59 v.1 = .inl b2 → ∃ r, wp T n Y cd g 0 (o + 1) b2 = some r ∧ r.1 = w.1 ∧ (r.1.isLeft = true → w.2 = fun s => r.2 (v.2 s))) := by
                rcases andW_cases hw with ⟨b1, X1, e1, h2⟩ | ⟨q, X1, e1, h2⟩
                · refine ⟨_, e1, fun q hq => ?_, fun b2 hb2 => ?_⟩
                  · have hq : psg T n 59 (.inl b1) = .inr q := hq
                    rw [hq] at h2
                    cases h2
                    rfl
                  · have hb2 : psg T n 59 (.inl b1) = .inl b2 := hb2
                    rw [hb2] at h2
                    rcases andW_cases (show andW (wp T n Y cd g 0 (o + 1) b2) _ = some w from h2) with ⟨b3, X3, e3, h5⟩ | ⟨q, X3, e3, h5⟩
                    · cases h5
                      exact ⟨_, e3, rfl, fun _ => rfl⟩
                    · exact ⟨_, e3, by rw [h5], fun h => by cases h⟩
                · refine ⟨_, e1, fun q' hq => ?_, fun b2 hb2 => (by cases hb2)⟩
                  have hq : (.inr q : PS) = .inr q' := hq
                  rw [h2, ← hq]
              obtain ⟨v, v1, v2, v3'⟩ := key
              refine ⟨_, _, (show 6 + (6 - (o + 1)) < 6 + (6 - o) by omega), ih g (by omega) (o + 1) (tx T n isb b) v S7 z7 v1 (by omega) hM7 ho7 hz7 (by omega) (my_w hM hQ7), fun S8 h8 => ?_⟩
              obtain ⟨r1, r2, r3⟩ := h8
              have hQ8 := hQ7.tr r3
              cases hp : psg T n 59 v.1 with
              | inr q =>
                rw [hp] at r1
                obtain ⟨x, r1⟩ := r1
                refine ⟨_, _, d1, c_mblanks l S8 r1, fun S9 h9 => ?_⟩
                have hwq := v2 q hp
                refine step 40 [(7, [true, true, true]), (8, [true, true, true])] 7 _ _ _ ?_
                simp only [q_vcs, q_vcc, q_vl, q_vu, ↓reduceIte, Nat.reduceEqDiff, Bool.false_eq_true, q_isc, q_mk, q_msk, zbX11_readsStep, q_pad, q_ent, q_get, q_put, q_nl, q_w, List.cons_append, List.nil_append, q_aks, q_als, Nat.reduceAdd, Nat.reduceLeDiff, Nat.zero_le, true_and, and_true, Option.some.injEq, Sum.inl.injEq, Sum.inr.injEq, true_or, or_true, and_self, q_sw]
                rw [mek_0 h9.1]
                refine ⟨fun _ => ?_, fun h => (by cases h)⟩
                have h28x : ∃ z9, q_I S9 40 0 28 = nI z9 := by
                  obtain ⟨m, hm, e⟩ := wb_of32 (q_I S9 40 0 28)
                  exact ⟨m, e⟩
                obtain ⟨z9, hz9⟩ := h28x
                refine fin8 S9 (.inr q, w.2) z9 ⟨_, h9.1⟩ (hQ8.tr (MwQ.e h9.2)) hz9 (fun b' hb' => by cases hb') (by rw [hu1, hwq]) (fun h => ?_)
                rw [hu1, hwq] at h
                cases h
              | inl b2 =>
                rw [hp] at r1
                obtain ⟨s1, z8, s2, s3, s4, s5, s6⟩ := r2 b2 hp
                obtain ⟨r, w1, w2, w3⟩ := v3' b2 hp
                refine ⟨_, _, d1, c_mblanks l S8 r1, fun S9 h9 => ?_⟩
                have e9 : ∀ i, q_I S9 64 i = q_I S8 64 i := fun i => (h9.2.2 64 i (fun q => by cases q)).1
                refine ihg (by omega) b2 z8 S9 (fun s => v.2 (Xa s)) r w1 hpl h9.1 (hQ8.tr (MwQ.e h9.2)) (by rw [h9.2.1 28 (by decide)]; exact s2) (by rw [h9.2.1 8 (by decide)]; exact s1) (by omega) s4 ?_ (fun i hi => by rw [e9, s6 i (by omega), h640 i hi]) (by rw [e9, s6 z (by omega)]; exact h6z0) (by rw [e9, s6 z (by omega)]; exact h6z1) (by rw [hu1, w2]) (fun hl => ?_)
                · have c1 : RI Y cd (fun i q => q_I S9 64 i q) (6 - (o + 1)) (z + 1) z7 Xa := hri.cong fun i q h1 h2 => by rw [e9, s6 i h2]
                  have c2 : RI Y cd (fun i q => q_I S9 64 i q) (6 - (o + 1)) z7 z8 v.2 := s5.cong fun i q h1 h2 => by rw [e9]
                  exact c1.seq c2
                · have hwl : w.1.isLeft = true := by rw [hu1] at hl; exact psg_left hl
                  rw [hu2 hl, w3 (by rw [w2]; exact hwl)]
        cases hp : psg T n 91 (pnm T n 0 31 (.inl (tx T n isl (tx T n isb a)))) with
        | inr q =>
          rw [hp] at hu g3
          cases hu
          obtain ⟨⟨x, g3a⟩, g3b⟩ := g3
          refine ⟨_, _, d1, c_mblanks l S6 g3a, fun S7 h7 => ?_⟩
          refine step 40 [(7, [true, true, true]), (8, [true, true, true])] 7 _ _ _ ?_
          simp only [q_vcs, q_vcc, q_vl, q_vu, ↓reduceIte, Nat.reduceEqDiff, Bool.false_eq_true, q_isc, q_mk, q_msk, zbX11_readsStep, q_pad, q_ent, q_get, q_put, q_nl, q_w, List.cons_append, List.nil_append, q_aks, q_als, Nat.reduceAdd, Nat.reduceLeDiff, Nat.zero_le, true_and, and_true, Option.some.injEq, Sum.inl.injEq, Sum.inr.injEq, true_or, or_true, and_self, q_sw]
          rw [mek_0 h7.1]
          refine ⟨fun _ => ?_, fun h => (by cases h)⟩
          exact fin8 S7 (.inr q, id) (z + 1) ⟨_, h7.1⟩ (hQ6.tr (MwQ.e h7.2)) (by rw [h7.2.1 28 (by decide)]; exact h286) (fun b' hb' => by cases hb') rfl (fun h => by cases h)
        | inl b =>
          rw [hp] at hu g3
          have hpl := psg_left (isL hp)
          obtain ⟨b0, w0, w1', -⟩ := psg_lt hp
          obtain ⟨b00, w00, w2', -⟩ := pnm_lt w0
          cases w00
          rcases andW_cases (show andW (wp T n Y cd f 0 (o + 1) b) _ = some u from hu) with ⟨b3, X3, e3, h5⟩ | ⟨q, X3, e3, h5⟩
          · refine ⟨_, _, d1, c_mblanks l S6 g3.1, fun S7 h7 => ?_⟩
            have e7 : ∀ i, q_I S7 64 i = q_I S6 64 i := fun i => (h7.2.2 64 i (fun q => by cases q)).1
            cases h5
            exact loop f (Nat.le_refl _) b (z + 1) S7 id (.inl b3, X3) e3 hpl h7.1 (hQ6.tr (MwQ.e h7.2)) (by rw [h7.2.1 28 (by decide)]; exact h286) (by rw [h7.2.1 8 (by decide)]; exact h86) (Nat.le_refl _) (by omega) (RI.nil _ _) (fun i hi => by rw [e7, h646 i (by omega)]) (by rw [e7]; exact hz06) (by rw [e7]; exact hz16 hpl) rfl (fun _ => rfl)
          · refine ⟨_, _, d1, c_mblanks l S6 g3.1, fun S7 h7 => ?_⟩
            have e7 : ∀ i, q_I S7 64 i = q_I S6 64 i := fun i => (h7.2.2 64 i (fun q => by cases q)).1
            subst h5
            exact loop f (Nat.le_refl _) b (z + 1) S7 id (.inr q, X3) e3 hpl h7.1 (hQ6.tr (MwQ.e h7.2)) (by rw [h7.2.1 28 (by decide)]; exact h286) (by rw [h7.2.1 8 (by decide)]; exact h86) (Nat.le_refl _) (by omega) (RI.nil _ _) (fun i hi => by rw [e7, h646 i (by omega)]) (by rw [e7]; exact hz06) (by rw [e7]; exact hz16 hpl) rfl (fun h => by cases h)
    by_cases hk : k = 4
    · subst hk
      refine ⟨fun h => absurd rfl h, fun _ => ?_⟩
      refine ⟨_, _, d1, c_mopensOne l S1 h1.1 ho1 ho, fun v S2 h2 => ?_⟩
      obtain ⟨hv, g1, g2, g3, g4⟩ := h2
      cases hv
      have hQ2 : MwQ S S2 := hQ1.tr ⟨fun j a b _ => g3 j a b, g4.mn fun f k h => Or.inl h⟩
      by_cases h6 : o < 6
      · rw [if_pos h6] at g1
        rw [decide_eq_true h6]
        refine ⟨fun _ => ?_, fun h => absurd h (by decide)⟩
        refine step 40 [(3, [true, true, false])] 2 _ _ _ ?_
        simp only [q_vcs, q_vcc, q_vl, q_vu, ↓reduceIte, Nat.reduceEqDiff, Bool.false_eq_true, q_isc, q_mk, q_msk, zbX11_readsStep, q_pad, q_ent, q_get, q_put, q_nl, q_w, List.cons_append, List.nil_append, q_aks, q_als, Nat.reduceAdd, Nat.reduceLeDiff, Nat.zero_le, true_and, and_true, Option.some.injEq, Sum.inl.injEq, Sum.inr.injEq, true_or, or_true, and_self, q_sw]
        rw [mek_0 g1]
        exact ⟨fun _ => at3 S2 (o + 1) g1 hQ2 (by rw [g3 28 (by decide) (by decide)]; exact hs1) (g2 h6) (fun i => by rw [(g4 64 i (fun q => by cases q)).1, e1 i]) (fun h => absurd rfl h) (fun _ => ⟨rfl, h6⟩), fun h => absurd rfl h⟩
      · rw [if_neg h6] at g1
        rw [decide_eq_false h6]
        refine ⟨fun h => absurd rfl h, fun _ => ?_⟩
        rw [wp_1m hs (by omega)] at hu
        cases hu
        exact ⟨⟨_, g1⟩, (fun b hb => by cases hb), hQ2⟩
    · refine ⟨fun _ => ?_, fun h => absurd h hk⟩
      refine step 40 [(3, [true, true, false])] 2 _ _ _ ?_
      simp only [q_vcs, q_vcc, q_vl, q_vu, ↓reduceIte, Nat.reduceEqDiff, Bool.false_eq_true, q_isc, q_mk, q_msk, zbX11_readsStep, q_pad, q_ent, q_get, q_put, q_nl, q_w, List.cons_append, List.nil_append, q_aks, q_als, Nat.reduceAdd, Nat.reduceLeDiff, Nat.zero_le, true_and, and_true, Option.some.injEq, Sum.inl.injEq, Sum.inr.injEq, true_or, or_true, and_self, q_sw]
      rw [mek_0 h1.1]
      exact ⟨fun _ => at3 S1 o h1.1 hQ1 hs1 ho1 e1 (fun _ => rfl) (fun h => absurd h hk), fun h => absurd rfl h⟩
