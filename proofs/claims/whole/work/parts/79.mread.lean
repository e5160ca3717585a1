/-! the reference: reading -/
def MD (S : qSt) (T : Nat → Nat) (n a : Nat) (e : Option (Nat × Nat)) : Prop :=
  (n ≤ 600 ∧ a ≤ n ∧ (∀ q, e = some q → 1 ≤ q.1 ∧ q.1 ≤ 3 ∧ q.2 ≤ 600)) ∧ (q_I S 40 0 2 = nI n ∧ q_I S 40 0 4 = nI a ∧ q_I S 40 0 5 = nI (ek e) ∧ q_I S 40 0 6 = oI (e.map Prod.snd)) ∧ ∀ k, k < 600 → T k < 256 ∧ q_I S 41 0 k = nI (T k)
abbrev F40 : Nat → Nat → Prop := fun f _ => f = 40
theorem fr40 {S S1 : qSt} (h : fr F40 S S1) {j : Nat} {v : Int32} : fr F40 S (q_wI S1 40 0 j v) := fr.wI h rfl
/-- but the reader's own fields nothing has changed -/
def ME (S S' : qSt) : Prop := (∀ j, ¬ (4 ≤ j ∧ j ≤ 6) → q_I S' 40 0 j = q_I S 40 0 j) ∧ fr F40 S S'
theorem ME.rf {S : qSt} : ME S S := ⟨fun _ _ => rfl, fr.rf⟩
theorem ME.tr {S S1 S2 : qSt} (h : ME S S1) (h2 : ME S1 S2) : ME S S2 := ⟨fun j hj => (h2.1 j hj).trans (h.1 j hj), h.2.tr h2.2⟩
theorem ME.w {S S1 : qSt} (h : ME S S1) {j : Nat} {v : Int32} (hj : 4 ≤ j ∧ j ≤ 6) : ME S (q_wI S1 40 0 j v) := ⟨fun q hq => by rw [q_I_wI, if_neg (by omega)]; exact h.1 q hq, fr40 h.2⟩
theorem MD.at {S : qSt} {T : Nat → Nat} {n a : Nat} {e : Option (Nat × Nat)} (h : MD S T n a e) {b : Nat} (hb : b ≤ n) : MD (q_wI S 40 0 4 (nI b)) T n b e := by
  obtain ⟨⟨h1, h2, h3⟩, ⟨g2, g3, g4, g5⟩, h5⟩ := h
  exact ⟨⟨h1, hb, h3⟩, ⟨g2, rfl, g4, g5⟩, h5⟩
theorem mek_0 {S : qSt} {T : Nat → Nat} {n a : Nat} {e : Option (Nat × Nat)} (h : MD S T n a e) : q_I S 40 0 5 = 0 ↔ e = none := by
  obtain ⟨⟨h1, h2, h3⟩, ⟨g2, g3, g4, g5⟩, h5⟩ := h
  rw [g4, show (0 : Int32) = nI 0 from rfl]
  cases e with
  | none => simp [ek]
  | some q =>
    have := h3 q rfl
    rw [show ek (some q) = q.1 from rfl, nI_eq (by omega) (by decide)]
    simp
    omega
theorem c_mbyteAt (l : Launch) (S : qSt) {T : Nat → Nat} {n a k : Nat} {e : Option (Nat × Nat)} (h : MD S T n a e) (hk : k < 2 ^ 20) : q_Met q_mt l 0 k_X11_byteAt 1 [.inr (.inr (40, 0)), .inl (nI k)] S (fun r S' => r = some (.inl (oI (hr T n k))) ∧ S' = S) := by
  refine q_meth zoX11_byteAt q_fos (Nat.le_of_ble_eq_true rfl) ?_
  intro AT step
  refine step 20 [] 0 _ _ _ ?_
  simp only [q_vcs, q_vcc, q_vl, q_vu, ↓reduceIte, Nat.reduceEqDiff, Bool.false_eq_true, q_isc, q_mk, q_msk, zbX11_byteAt, q_pad, q_ent, q_get, q_put, q_nl, q_w, List.cons_append, List.nil_append, q_aks, q_als, Nat.reduceAdd, Nat.reduceLeDiff, Nat.zero_le, true_and, and_true, Option.some.injEq, Sum.inl.injEq, Sum.inr.injEq, true_or, or_true, and_self, q_sw]
  obtain ⟨⟨h1, h2, h3⟩, ⟨g2, g3, g4, g5⟩, h5⟩ := h
  rw [g2, nI_ltI (by omega) (by omega)]
  unfold hr
  refine ⟨fun h => ⟨i_in (by omega) (by decide), ?_⟩, fun h => ?_⟩
  · rw [i_cl (by omega), (h5 k (by omega)).2, if_pos h]; exact (by first | trivial | rfl | exact ⟨rfl, rfl⟩)
  · rw [if_neg h]; exact (by first | trivial | rfl | exact ⟨rfl, rfl⟩)
theorem mhr_lt {S : qSt} {T : Nat → Nat} {n a k : Nat} {e : Option (Nat × Nat)} (h : MD S T n a e) : ∀ c, hr T n k = some c → c < 256 := fun c hc => by
  obtain ⟨⟨h1, h2, h3⟩, -, h5⟩ := h
  obtain ⟨q1, q2⟩ := hr_some hc
  rw [← q2]
  exact (h5 k (by omega)).1
theorem mhr_eq {S : qSt} {T : Nat → Nat} {n a k : Nat} {e : Option (Nat × Nat)} (h : MD S T n a e) {c : Nat} (hc : c < 256) : oI (hr T n k) = nI c ↔ hr T n k = some c := by
  have hl := mhr_lt h (k := k)
  cases hh : hr T n k with
  | none =>
    refine ⟨fun h => ?_, fun h => by cases h⟩
    exact absurd h.symm (i_ne1 (by omega))
  | some x =>
    have := hl x hh
    rw [show oI (some x) = nI x from rfl, nI_eq (by omega) (by omega)]
    simp
theorem c_mblanks (l : Launch) (S : qSt) {T : Nat → Nat} {n a : Nat} {e : Option (Nat × Nat)} (h : MD S T n a e) : q_Met q_mt l 1 k_X11_blanks 0 [.inr (.inr (40, 0))] S (fun _ S' => MD S' T n (tx T n isb a) e ∧ ME S S') := by
  refine q_meth zoX11_blanks q_fos (Nat.le_of_ble_eq_true rfl) ?_
  intro AT step
  have hL : ∀ (m b : Nat) (S1 : qSt), n - b ≤ m → MD S1 T n b e → ME S S1 → tx T n isb b = tx T n isb a → AT 0 [some (.inr (.inr (40, 0)))] [] S1 := by
    intro m
    induction m with
    | zero => ?_
    | succ m ih => ?_
    all_goals
      intro b S1 hm hR hE ht
      have hn := hR.1
      have g3 := hR.2.1.2.1
      have fin : tb T n isb b = false → MD S1 T n (tx T n isb a) e ∧ ME S S1 := fun hf => by
        rw [← ht, tx_f hf]
        exact ⟨hR, hE⟩
      refine step 20 [(0, [true])] 0 _ _ _ ?_
      simp only [q_vcs, q_vcc, q_vl, q_vu, ↓reduceIte, Nat.reduceEqDiff, Bool.false_eq_true, q_isc, q_mk, q_msk, zbX11_blanks, q_pad, q_ent, q_get, q_put, q_nl, q_w, List.cons_append, List.nil_append, q_aks, q_als, Nat.reduceAdd, Nat.reduceLeDiff, Nat.zero_le, true_and, and_true, Option.some.injEq, Sum.inl.injEq, Sum.inr.injEq, true_or, or_true, and_self, q_sw]
      rw [g3]
      refine q_u1 (by decide) (c_mbyteAt l S1 (k := b) hR (by omega)) ?_
      rw [show (32 : Int32) = nI 32 from rfl, mhr_eq hR (by decide), g3, nI_1]
      refine ⟨fun h1 => fin ?_, fun h1 => ?_⟩
      · rw [tb_hr]
        cases hh : hr T n b with
        | none => rfl
        | some x =>
          rw [hh] at h1
          unfold isb
          simp
          exact fun q => h1 (by rw [q])
      · have hb := (hr_some h1).1
        have htb : tb T n isb b = true := by
          rw [tb_hr, h1]
          rfl
        first
        | exact absurd hm (by omega)
        | exact ih (b + 1) _ (by omega) (hR.at (by omega)) (hE.w (by omega)) (by rw [← ht]; exact (tx_t htb).symm)
  exact hL n a S (by omega) h ME.rf rfl
theorem c_mwrong (l : Launch) (S : qSt) {T : Nat → Nat} {n a k p : Nat} {e : Option (Nat × Nat)} (h : MD S T n a e) (hk : 1 ≤ k ∧ k ≤ 3) (hp : p ≤ 600) : q_Met q_mt l 0 k_X11_wrong 0 [.inr (.inr (40, 0)), .inl (nI k), .inl (nI p)] S (fun _ S' => MD S' T n a (fal e k p) ∧ ME S S') := by
  refine q_meth zoX11_wrong q_fos (Nat.le_of_ble_eq_true rfl) ?_
  intro AT step
  refine step 20 [] 0 _ _ _ ?_
  simp only [q_vcs, q_vcc, q_vl, q_vu, ↓reduceIte, Nat.reduceEqDiff, Bool.false_eq_true, q_isc, q_mk, q_msk, zbX11_wrong, q_pad, q_ent, q_get, q_put, q_nl, q_w, List.cons_append, List.nil_append, q_aks, q_als, Nat.reduceAdd, Nat.reduceLeDiff, Nat.zero_le, true_and, and_true, Option.some.injEq, Sum.inl.injEq, Sum.inr.injEq, true_or, or_true, and_self, q_sw]
  rw [mek_0 h]
  cases e with
  | none =>
    refine ⟨fun h => absurd rfl h, fun _ => ?_⟩
    obtain ⟨⟨h1, h2, h3⟩, ⟨g2, g3, g4, g5⟩, h5⟩ := h
    refine ⟨⟨⟨h1, h2, fun q hq => ?_⟩, ⟨g2, g3, rfl, rfl⟩, h5⟩, (ME.w (ME.w ME.rf (by decide)) (by decide))⟩
    cases hq
    exact ⟨hk.1, hk.2, hp⟩
  | some q => exact ⟨fun _ => ⟨h, ME.rf⟩, fun h => by cases h⟩
theorem c_misDigit (l : Launch) (S : qSt) {o : Option Nat} (ho : ∀ c, o = some c → c < 256) : q_Met q_mt l 0 k_X11_isDigit 1 [.inl (oI o)] S (fun r S' => r = some (.inl (bI (o.any isd))) ∧ S' = S) := by
  refine q_meth zoX11_isDigit q_fos (Nat.le_of_ble_eq_true rfl) ?_
  intro AT step
  refine step 20 [] 0 _ _ _ ?_
  simp only [q_vcs, q_vcc, q_vl, q_vu, ↓reduceIte, Nat.reduceEqDiff, Bool.false_eq_true, q_isc, q_mk, q_msk, zbX11_isDigit, q_pad, q_ent, q_get, q_put, q_nl, q_w, List.cons_append, List.nil_append, q_aks, q_als, Nat.reduceAdd, Nat.reduceLeDiff, Nat.zero_le, true_and, and_true, Option.some.injEq, Sum.inl.injEq, Sum.inr.injEq, true_or, or_true, and_self, q_sw]
  cases o with
  | none => exact ⟨fun _ => (by first | trivial | rfl | exact ⟨rfl, rfl⟩), fun h => absurd (by decide) h⟩
  | some c =>
    have hc := ho c rfl
    rw [show oI (some c) = nI c from rfl, show (48 : Int32) = nI 48 from rfl, show (57 : Int32) = nI 57 from rfl, nI_ltI (by omega) (by omega), nI_ltI (by omega) (by omega)]
    refine ⟨fun h => ?_, fun h => ⟨fun h' => ?_, fun h' => ?_⟩⟩
    · have : isd c = false := by unfold isd; simp; omega
      simp [this]; rfl
    · have : isd c = false := by unfold isd; simp; omega
      simp [this]; rfl
    · have : isd c = true := by unfold isd; simp; omega
      simp [this]; rfl
theorem c_misSmall (l : Launch) (S : qSt) {o : Option Nat} (ho : ∀ c, o = some c → c < 256) : q_Met q_mt l 0 k_X11_isSmall 1 [.inl (oI o)] S (fun r S' => r = some (.inl (bI (o.any isl))) ∧ S' = S) := by
  refine q_meth zoX11_isSmall q_fos (Nat.le_of_ble_eq_true rfl) ?_
  intro AT step
  refine step 20 [] 0 _ _ _ ?_
  simp only [q_vcs, q_vcc, q_vl, q_vu, ↓reduceIte, Nat.reduceEqDiff, Bool.false_eq_true, q_isc, q_mk, q_msk, zbX11_isSmall, q_pad, q_ent, q_get, q_put, q_nl, q_w, List.cons_append, List.nil_append, q_aks, q_als, Nat.reduceAdd, Nat.reduceLeDiff, Nat.zero_le, true_and, and_true, Option.some.injEq, Sum.inl.injEq, Sum.inr.injEq, true_or, or_true, and_self, q_sw]
  cases o with
  | none => exact ⟨fun _ => (by first | trivial | rfl | exact ⟨rfl, rfl⟩), fun h => absurd (by decide) h⟩
  | some c =>
    have hc := ho c rfl
    rw [show oI (some c) = nI c from rfl, show (97 : Int32) = nI 97 from rfl, show (122 : Int32) = nI 122 from rfl, nI_ltI (by omega) (by omega), nI_ltI (by omega) (by omega)]
    refine ⟨fun h => ?_, fun h => ⟨fun h' => ?_, fun h' => ?_⟩⟩
    · have : isl c = false := by unfold isl; simp; omega
      simp [this]; rfl
    · have : isl c = false := by unfold isl; simp; omega
      simp [this]; rfl
    · have : isl c = true := by unfold isl; simp; omega
      simp [this]; rfl
/-- till the first fault -/
def MS (S : qSt) (T : Nat → Nat) (n : Nat) (s : PS) : Prop := match s with
  | .inl a => MD S T n a none
  | .inr q => ∃ a, MD S T n a (some q)
theorem ms_0 {S : qSt} {T : Nat → Nat} {n : Nat} {s : PS} (h : MS S T n s) : q_I S 40 0 5 = 0 ↔ s.isLeft = true := by
  cases s with
  | inl a => rw [mek_0 h]; simp
  | inr q =>
    obtain ⟨a, h⟩ := h
    rw [mek_0 h]
    simp
theorem min_dv5 (x d : Nat) : (if 100000 < 10 * min x 100000 + d then 100000 else 10 * min x 100000 + d) = min (x * 10 + d) 100000 := by
  split <;> omega
set_option maxHeartbeats 1000000 in
theorem c_mnumber (l : Launch) (S : qSt) {T : Nat → Nat} {n lo h : Nat} {s : PS} {lo9 hi9 : Int32} (hR : MS S T n s) (hl9 : lo9 = nI lo) (hh9 : hi9 = nI h - 1) (hlo : lo < 2 ^ 10) (hh : h < 2 ^ 10) : q_Met q_mt l 2 k_X11_number 1 [.inr (.inr (40, 0)), .inl lo9, .inl hi9] S (fun r S' => r = some (.inl (nI (if (pnm T n lo h s).isLeft then pvl T n s else 0))) ∧ MS S' T n (pnm T n lo h s) ∧ ME S S') := by
  subst hl9 hh9
  refine q_meth zoX11_number q_fos (Nat.le_of_ble_eq_true rfl) ?_
  intro AT step
  cases s with
  | inr q =>
    refine step 20 [(2, [true, true, true, true, true])] 0 _ _ _ ?_
    simp only [q_vcs, q_vcc, q_vl, q_vu, ↓reduceIte, Nat.reduceEqDiff, Bool.false_eq_true, q_isc, q_mk, q_msk, zbX11_number, q_pad, q_ent, q_get, q_put, q_nl, q_w, List.cons_append, List.nil_append, q_aks, q_als, Nat.reduceAdd, Nat.reduceLeDiff, Nat.zero_le, true_and, and_true, Option.some.injEq, Sum.inl.injEq, Sum.inr.injEq, true_or, or_true, and_self, q_sw]
    rw [ms_0 hR]
    exact ⟨fun h => (by cases h), fun _ => ⟨rfl, hR, ME.rf⟩⟩
  | inl a =>
    have hR : MD S T n a none := hR
    have hn := hR.1
    have hb : tx T n isb a ≤ n := tx_le hn.2.1
    have fin : ∀ (S1 : qSt) (v : Nat) (e : Option (Nat × Nat)), MD S1 T n (nmA T n a) e → ME S S1 → v = min (nmN T n a) 100000 → e = (if nmA T n a = tx T n isb a then some (1, tx T n isb a) else none) → AT 5 [some (.inr (.inr (40, 0))), some (.inl (nI lo)), some (.inl (nI h - 1)), some (.inl (nI (tx T n isb a))), some (.inl (nI v))] [] S1 := by
      intro S1 v e hM1 hE1 hv he
      refine step 20 [] 5 _ _ _ ?_
      simp only [q_vcs, q_vcc, q_vl, q_vu, ↓reduceIte, Nat.reduceEqDiff, Bool.false_eq_true, q_isc, q_mk, q_msk, zbX11_number, q_pad, q_ent, q_get, q_put, q_nl, q_w, List.cons_append, List.nil_append, q_aks, q_als, Nat.reduceAdd, Nat.reduceLeDiff, Nat.zero_le, true_and, and_true, Option.some.injEq, Sum.inl.injEq, Sum.inr.injEq, true_or, or_true, and_self, q_sw]
      refine q_u1 (by decide) (c_min l S1 (nI v) (nI lo) (nI h - 1)) ?_
      rw [bI_0]
      have hin : (nI lo ≤ nI v ∧ nI v ≤ nI h - 1) ↔ (lo ≤ nmN T n a ∧ nmN T n a < h) := by
        rw [nI_leI (by omega) (by omega), i_lem (by omega) (by omega)]
        omega
      by_cases hz : nmA T n a = tx T n isb a
      · rw [if_pos hz] at he
        subst he
        have hno : nmE T n a lo h none = some (1, tx T n isb a) := by unfold nmE; rw [if_pos hz]; rfl
        have hp := pnm_no hno
        rw [hp]
        have h0 := mek_0 hM1
        refine ⟨fun _ => ⟨fun _ => ⟨rfl, ⟨_, hM1⟩, hE1⟩, fun q => ?_⟩, fun _ => ?_⟩
        · rw [h0] at q; cases q
        · refine ⟨_, _, (by decide : 0 < 2), c_mwrong l S1 (k := 2) hM1 (by decide) (by omega), fun S2 h2 => ?_⟩
          have h02 := mek_0 h2.1
          refine ⟨fun _ => ⟨rfl, ⟨_, h2.1⟩, hE1.tr h2.2⟩, fun q => ?_⟩
          rw [h02] at q
          cases q
      · rw [if_neg hz] at he
        subst he
        by_cases hr : lo ≤ nmN T n a ∧ nmN T n a < h
        · have hno : nmE T n a lo h none = none := by unfold nmE; rw [if_neg hz, if_pos hr]
          have hp := pnm_ok hno
          rw [hp, decide_eq_true (hin.mpr hr)]
          have h0 := mek_0 hM1
          refine ⟨fun _ => ⟨fun q => absurd (h0.mpr rfl) q, fun _ => ?_⟩, fun h => (by cases h)⟩
          have ev : v = nmN T n a := by omega
          rw [ev]
          exact ⟨rfl, hM1, hE1⟩
        · have hno : nmE T n a lo h none = some (2, tx T n isb a) := by unfold nmE; rw [if_neg hz, if_neg hr]; rfl
          have hp := pnm_no hno
          rw [hp, decide_eq_false (fun q => hr (hin.mp q))]
          refine ⟨fun h => absurd rfl h, fun _ => ?_⟩
          refine ⟨_, _, (by decide : 0 < 2), c_mwrong l S1 (k := 2) hM1 (by decide) (by omega), fun S2 h2 => ?_⟩
          have h02 := mek_0 h2.1
          refine ⟨fun _ => ⟨rfl, ⟨_, h2.1⟩, hE1.tr h2.2⟩, fun q => ?_⟩
          rw [h02] at q
          cases q
    have hL : ∀ (m k : Nat) (S1 : qSt) (e : Option (Nat × Nat)), n - (tx T n isb a + k) ≤ m → MD S1 T n (tx T n isb a + k) e → ME S S1 → tx T n isd (tx T n isb a + k) = nmA T n a → e = (if nmA T n a = tx T n isb a then some (1, tx T n isb a) else none) → AT 2 [some (.inr (.inr (40, 0))), some (.inl (nI lo)), some (.inl (nI h - 1)), some (.inl (nI (tx T n isb a))), some (.inl (nI (min (dvl T (tx T n isb a) k) 100000)))] [] S1 := by
      intro m
      induction m with
      | zero => ?_
      | succ m ih => ?_
      all_goals
        intro k S1 e hm hM1 hE1 ht he
        have hn1 := hM1.1
        have g3 := hM1.2.1.2.1
        refine step 40 [(2, [true, true, true, true, true]), (5, [true, true, true, true, true])] 2 _ _ _ ?_
        simp only [q_vcs, q_vcc, q_vl, q_vu, ↓reduceIte, Nat.reduceEqDiff, Bool.false_eq_true, q_isc, q_mk, q_msk, zbX11_number, q_pad, q_ent, q_get, q_put, q_nl, q_w, List.cons_append, List.nil_append, q_aks, q_als, Nat.reduceAdd, Nat.reduceLeDiff, Nat.zero_le, true_and, and_true, Option.some.injEq, Sum.inl.injEq, Sum.inr.injEq, true_or, or_true, and_self, q_sw]
        rw [g3]
        refine q_u1 (by decide) (c_mbyteAt l S1 (k := tx T n isb a + k) hM1 (by omega)) ?_
        refine q_u1 (by decide) (c_misDigit l S1 (mhr_lt hM1)) ?_
        rw [bI_0, ← tb_hr]
        refine ⟨fun hf => ?_, fun h2 => ?_⟩
        · have hA : nmA T n a = tx T n isb a + k := by rw [← ht, tx_f hf]
          have hN : nmN T n a = dvl T (tx T n isb a) k := by unfold nmN; rw [hA, Nat.add_sub_cancel_left]
          rw [← hN]
          rw [← hA] at hM1
          exact fin S1 _ e hM1 hE1 rfl he
        have h2 : tb T n isd (tx T n isb a + k) = true := ts_nf h2
        have hd := tb_lt h2
        try exact absurd hm (by omega)
      have hd2 : 48 ≤ T (tx T n isb a + k) ∧ T (tx T n isb a + k) ≤ 57 := by
        have := hd.2
        unfold isd at this
        simpa using this
      rw [g3]
      refine q_u1 (by decide) (c_mbyteAt l S1 (k := tx T n isb a + k) hM1 (by omega)) ?_
      have e1 : hr T n (tx T n isb a + k) = some (T (tx T n isb a + k)) := by unfold hr; rw [if_pos hd.1]
      have e2 : 10 * nI (min (dvl T (tx T n isb a) k) 100000) + oI (some (T (tx T n isb a + k))) - 48 = nI (10 * min (dvl T (tx T n isb a) k) 100000 + (T (tx T n isb a + k) - 48)) := by
        rw [show (10 : Int32) = nI 10 from rfl, pk_mul, show oI (some (T (tx T n isb a + k))) = nI (T (tx T n isb a + k)) from rfl, nI_add, show (48 : Int32) = nI 48 from rfl, show 10 * min (dvl T (tx T n isb a) k) 100000 + T (tx T n isb a + k) = (10 * min (dvl T (tx T n isb a) k) 100000 + (T (tx T n isb a + k) - 48)) + 48 by omega, i_sub]
      rw [e1, e2, show (100000 : Int32) = nI 100000 from rfl, nI_leI (by omega) (by omega), g3, nI_1]
      have next := ih (k + 1) _ e (by omega) (hM1.at (b := tx T n isb a + (k + 1)) (by omega)) (hE1.w (by omega)) (by rw [← ht]; exact (tx_t h2).symm) he
      have hdv : dvl T (tx T n isb a) (k + 1) = dvl T (tx T n isb a) k * 10 + (T (tx T n isb a + k) - 48) := rfl
      rw [hdv, ← min_dv5] at next
      refine ⟨fun hle => ?_, fun hle => ?_⟩
      · rw [if_neg (by omega)] at next; exact next
      · rw [if_pos (by omega)] at next; exact next
    refine step 20 [(2, [true, true, true, true, true])] 0 _ _ _ ?_
    simp only [q_vcs, q_vcc, q_vl, q_vu, ↓reduceIte, Nat.reduceEqDiff, Bool.false_eq_true, q_isc, q_mk, q_msk, zbX11_number, q_pad, q_ent, q_get, q_put, q_nl, q_w, List.cons_append, List.nil_append, q_aks, q_als, Nat.reduceAdd, Nat.reduceLeDiff, Nat.zero_le, true_and, and_true, Option.some.injEq, Sum.inl.injEq, Sum.inr.injEq, true_or, or_true, and_self, q_sw]
    rw [mek_0 hR]
    refine ⟨fun _ => ?_, fun h => absurd rfl h⟩
    refine ⟨_, _, (by decide : 1 < 2), c_mblanks l S hR, fun S1 h1 => ?_⟩
    rw [h1.1.2.1.2.1]
    refine q_u1 (by decide) (c_mbyteAt l S1 (k := tx T n isb a) h1.1 (by omega)) ?_
    refine q_u1 (by decide) (c_misDigit l S1 (mhr_lt h1.1)) ?_
    rw [bI_0, ← tb_hr, h1.1.2.1.2.1]
    refine ⟨fun hd => ?_, fun hd => ?_⟩
    · have hd : tb T n isd (tx T n isb a) = true := ts_nf hd
      have hne : ¬ nmA T n a = tx T n isb a := fun q => by
        have := tx_end T n isd (tx T n isb a)
        rw [show tx T n isd (tx T n isb a) = tx T n isb a from q, hd] at this
        cases this
      exact hL (n - tx T n isb a) 0 S1 none (by omega) h1.1 h1.2 rfl (by rw [if_neg hne])
    · have hA : nmA T n a = tx T n isb a := tx_f hd
      refine ⟨_, _, (by decide : 0 < 2), c_mwrong l S1 (k := 1) h1.1 (by decide) (by omega), fun S2 h2 => ?_⟩
      exact hL (n - tx T n isb a) 0 S2 _ (by omega) h2.1 (h1.2.tr h2.2) rfl (by rw [if_pos hA]; rfl)
theorem c_msign (l : Launch) (S : qSt) {T : Nat → Nat} {n c : Nat} {s : PS} (hR : MS S T n s) (hc : c < 256) : q_Met q_mt l 2 k_X11_sign 0 [.inr (.inr (40, 0)), .inl (nI c)] S (fun _ S' => MS S' T n (psg T n c s) ∧ ME S S') := by
  refine q_meth zoX11_sign q_fos (Nat.le_of_ble_eq_true rfl) ?_
  intro AT step
  refine step 20 [] 0 _ _ _ ?_
  simp only [q_vcs, q_vcc, q_vl, q_vu, ↓reduceIte, Nat.reduceEqDiff, Bool.false_eq_true, q_isc, q_mk, q_msk, zbX11_sign, q_pad, q_ent, q_get, q_put, q_nl, q_w, List.cons_append, List.nil_append, q_aks, q_als, Nat.reduceAdd, Nat.reduceLeDiff, Nat.zero_le, true_and, and_true, Option.some.injEq, Sum.inl.injEq, Sum.inr.injEq, true_or, or_true, and_self, q_sw]
  rw [ms_0 hR]
  cases s with
  | inr q => exact ⟨fun h => (by cases h), fun _ => ⟨hR, ME.rf⟩⟩
  | inl a =>
    refine ⟨fun _ => ?_, fun h => absurd rfl h⟩
    refine ⟨_, _, (by decide : 1 < 2), c_mblanks l S hR, fun S1 h1 => ?_⟩
    have hn := h1.1.1
    rw [h1.1.2.1.2.1]
    refine q_u1 (by decide) (c_mbyteAt l S1 (k := tx T n isb a) h1.1 (by omega)) ?_
    rw [mhr_eq h1.1 hc, h1.1.2.1.2.1, nI_1]
    refine ⟨fun h => ?_, fun h => ?_⟩
    · refine ⟨_, _, (by decide : 0 < 2), c_mwrong l S1 (k := 1) h1.1 (by decide) (by omega), fun S2 h2 => ?_⟩
      rw [psg_no h]
      exact ⟨⟨_, h2.1⟩, h1.2.tr h2.2⟩
    · rw [psg_ok h]
      have := (hr_some h).1
      exact ⟨h1.1.at (by omega), h1.2.w (by decide)⟩
theorem c_mtakesSign (l : Launch) (S : qSt) {T : Nat → Nat} {n c : Nat} {s : PS} (hR : MS S T n s) (hc : c < 256) : q_Met q_mt l 2 k_X11_takesSign 1 [.inr (.inr (40, 0)), .inl (nI c)] S (fun r S' => r = some (.inl (bI (pis T n c s))) ∧ MS S' T n (psk T n c s) ∧ ME S S') := by
  refine q_meth zoX11_takesSign q_fos (Nat.le_of_ble_eq_true rfl) ?_
  intro AT step
  refine step 20 [] 0 _ _ _ ?_
  simp only [q_vcs, q_vcc, q_vl, q_vu, ↓reduceIte, Nat.reduceEqDiff, Bool.false_eq_true, q_isc, q_mk, q_msk, zbX11_takesSign, q_pad, q_ent, q_get, q_put, q_nl, q_w, List.cons_append, List.nil_append, q_aks, q_als, Nat.reduceAdd, Nat.reduceLeDiff, Nat.zero_le, true_and, and_true, Option.some.injEq, Sum.inl.injEq, Sum.inr.injEq, true_or, or_true, and_self, q_sw]
  rw [ms_0 hR]
  cases s with
  | inr q => exact ⟨fun h => (by cases h), fun _ => ⟨rfl, hR, ME.rf⟩⟩
  | inl a =>
    refine ⟨fun _ => ?_, fun h => absurd rfl h⟩
    refine ⟨_, _, (by decide : 1 < 2), c_mblanks l S hR, fun S1 h1 => ?_⟩
    have hn := h1.1.1
    rw [h1.1.2.1.2.1]
    refine q_u1 (by decide) (c_mbyteAt l S1 (k := tx T n isb a) h1.1 (by omega)) ?_
    rw [mhr_eq h1.1 hc, h1.1.2.1.2.1, nI_1]
    unfold pis psk
    refine ⟨fun h => ?_, fun h => ?_⟩
    · simp only [h, if_false, decide_false]
      exact ⟨fun _ => ⟨rfl, h1.1, h1.2⟩, fun h => absurd trivial h⟩
    · have := (hr_some h).1
      simp only [h, if_true, decide_true]
      exact ⟨fun h => absurd h (by decide), fun _ => ⟨rfl, h1.1.at (by omega), h1.2.w (by decide)⟩⟩
