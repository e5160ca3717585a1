/-! Work: run -/
def stab (X : WF) : Prop := ∀ s, 200 ≤ s.1 → X s = s
theorem stab_itr {X : WF} (h : stab X) : ∀ n, stab (itr X n)
  | 0 => fun _ _ => rfl
  | n + 1 => fun s hs => by
    show itr X n (X s) = s
    rw [h s hs]
    exact stab_itr h n s hs
theorem stab_stf (Y : YD) (cd : List Tok) (k a b c : Nat) : stab (stf Y cd k a b c) := fun s hs => if_pos hs
theorem stab_agf (N : Nat) (X : WF) : stab (agf N X) := fun s hs => if_pos hs
def wgd (Y : YD) (s : WS) : Prop := s.1 ≤ 200 ∧ p_ok Y s.2.2.2.1
theorem stp_ok {Y : YD} (hY : y_ok Y) {cd : List Tok} {k a b c : Nat} {V V' : PV} (ho : sok Y k a b c) (hP : p_ok Y V.1) (h : stp Y cd k a b c V = some V') : p_ok Y V'.1 := by
  have h3 := hY.1
  match k, ho, h with
  | 0, ho, h =>
    have h : (if (lnof V.1 a).isSome ∨ rmZ Y V.1 b < lgt Y a then none else some (sp V.1 b (a :: V.1 b), V.2.1, V.2.2)) = some V' := h
    split at h
    · cases h
    · rename_i hn
      cases h
      have hl : lnof V.1 a = none := by
        cases hl : lnof V.1 a with
        | none => rfl
        | some k => exact absurd (Or.inl (by rw [hl]; rfl)) hn
      exact (p_in hY hP (ho.1 (by decide)) hl (ho.2.1 (by decide))).1
  | 1, ho, h =>
    cases hh : (V.1 b).head? with
    | none => rw [stp_n hh] at h; cases h
    | some f =>
      by_cases hc : b = c ∨ (kyt Y a).testBit f = false ∨ rmZ Y V.1 c < lgt Y f
      · rw [stp_r hh hc] at h; cases h
      · rw [stp_d hh hc] at h
        cases h
        exact (p_mv hY hP (by have := ho.2.1 (by decide); omega) (ho.2.2 rfl) hh).1
  | 2, ho, h =>
    have h : (match (V.1 b).head? with | none => none | some _ => some (sp V.1 b (V.1 b).tail, V.2.1, V.2.2)) = some V' := h
    split at h
    · cases h
    · cases h
      exact p_out hP b (by have := ho.2.1 (by decide); omega)
  | k + 3, ho, h =>
    have h : (if es (cho Y V.1) = es V.1 then none else some (cho Y V.1, V.2.1, V.2.2)) = some V' := h
    split at h
    · cases h
    · cases h
      exact cho_ok hY hP
theorem wgd_stf {Y : YD} (hY : y_ok Y) {cd : List Tok} {k a b c : Nat} (ho : sok Y k a b c) {s : WS} (h : wgd Y s) : wgd Y (stf Y cd k a b c s) := by
  unfold stf
  split
  · exact h
  · cases hs : stp Y cd k a b c s.2.2.2 with
    | none => exact ⟨by show s.1 + 1 ≤ 200; omega, h.2⟩
    | some V => exact ⟨by show s.1 + 1 ≤ 200; omega, stp_ok hY ho h.2 hs⟩
theorem c_countStep (l : Launch) (S : qSt) {a b : Nat} (v : Bool) (ha : q_I S 18 0 6 = nI a) (hb : q_I S 18 0 7 = nI b) : q_Met q_mt l 0 k_X8_countStep 0 [.inr (.inr (18, 0)), .inl (bI v)] S (fun _ S' => q_I S' 18 0 6 = nI (if v then a + 1 else a) ∧ q_I S' 18 0 7 = nI (if v then b else b + 1) ∧ q_I S' 18 0 5 = q_I S 18 0 5 ∧ fr (fun f _ => f = 18) S S') := by
  refine q_meth zoX8_countStep q_fos (Nat.le_of_ble_eq_true rfl) ?_
  intro AT step
  refine step 20 [] 0 _ _ _ ?_
  simp only [q_vcs, q_vcc, q_vl, q_vu, ↓reduceIte, Nat.reduceEqDiff, Bool.false_eq_true, q_isc, q_mk, q_msk, zbX8_countStep, q_pad, q_ent, q_get, q_put, q_nl, q_w, List.cons_append, List.nil_append, q_aks, q_als, Nat.reduceAdd, Nat.reduceLeDiff, Nat.zero_le, true_and, and_true, Option.some.injEq, Sum.inl.injEq, Sum.inr.injEq, true_or, or_true, and_self, q_sw]
  rw [ha, hb, nI_1, nI_1, bI_0]
  cases v with
  | true =>
    refine ⟨fun h => (by cases h), fun _ => ⟨?_, ?_, ?_, fr.wI fr.rf rfl⟩⟩
    · simp [q_I_wI]
    · simp [q_I_wI]; exact hb
    · simp [q_I_wI]
  | false =>
    refine ⟨fun _ => ⟨?_, ?_, ?_, fr.wI fr.rf rfl⟩, fun h => absurd rfl h⟩
    · simp [q_I_wI]; exact ha
    · simp [q_I_wI]
    · simp [q_I_wI]
theorem c_endRound (l : Launch) (S : qSt) {j m k : Nat} (hm : m < 150) (hj : j < m) (e1 : wE S 1 m = nI j) (hr : q_I S 23 0 j = nI (k + 1)) (hk : k < 2 ^ 20) : q_Met q_mt l 0 k_X8_endRound 1 [.inr (.inr (18, 0)), .inl (nI m)] S (fun v S' => v = some (.inl (nI (if 0 < k then j + 1 else m + 1))) ∧ S' = q_wI S 23 0 j (nI k)) := by
  have e1 : q_I S 20 0 m = nI j := e1
  refine q_meth zoX8_endRound q_fos (Nat.le_of_ble_eq_true rfl) ?_
  intro AT step
  refine step 20 [] 0 _ _ _ ?_
  simp only [q_vcs, q_vcc, q_vl, q_vu, ↓reduceIte, Nat.reduceEqDiff, Bool.false_eq_true, q_isc, q_mk, q_msk, zbX8_endRound, q_pad, q_ent, q_get, q_put, q_nl, q_w, List.cons_append, List.nil_append, q_aks, q_als, Nat.reduceAdd, Nat.reduceLeDiff, Nat.zero_le, true_and, and_true, Option.some.injEq, Sum.inl.injEq, Sum.inr.injEq, true_or, or_true, and_self, q_sw]
  have e2 : q_I (q_wI S 23 0 j (nI k)) 23 0 j = nI k := by rw [q_I_wI, if_pos ⟨rfl, rfl, rfl⟩]
  rw [i_cl (by omega), e1, i_cl (by omega), hr, nI_ltI (by omega) (by omega), i_m1, e2, nI_1, nI_1]
  refine ⟨i_in hm (by decide), fun h => absurd h (nI_pos (by omega)), fun _ => ⟨fun _ => ⟨i_in (by omega) (by decide), i_in (by omega) (by decide), i_in (by omega) (by decide), fun h => ?_, fun h => ?_⟩, fun h => absurd hj h⟩⟩
  · rw [show (0 : Int32) = nI 0 from rfl, nI_leI (by omega) (by decide)] at h
    rw [if_neg (by omega)]
    exact (by first | trivial | rfl | exact ⟨rfl, rfl⟩)
  · rw [show (0 : Int32) = nI 0 from rfl, nI_leI (by omega) (by decide)] at h
    rw [if_pos (by omega)]
    exact (by first | trivial | rfl | exact ⟨rfl, rfl⟩)
abbrev Frn (r i : Nat) : Nat → Nat → Prop := fun f j => f = 18 ∨ f = 23 ∨ Fds r i f j
/-- the store in the midst of a run -/
def WI (S : qSt) (r i z : Nat) (Y : YD) (s : WS) (S2 : qSt) : Prop := wgd Y s ∧ PR S2 r s.2.2.2 ∧ (q_I S2 18 0 6 = nI s.2.1 ∧ q_I S2 18 0 7 = nI s.2.2.1 ∧ q_I S2 18 0 5 = nI z) ∧ fr (Frn r i) S S2
theorem wi_fr {S S2 S3 : qSt} {r i z : Nat} {Y : YD} {s : WS} (h : WI S r i z Y s S2) (hf : fr (fun f _ => f = 23) S2 S3) : WI S r i z Y s S3 := by
  obtain ⟨h1, h2, h3, h4⟩ := h
  refine ⟨h1, h2.fr hf (by omega) (by omega), ?_, h4.tr (hf.mn fun f j h => Or.inr (Or.inl h))⟩
  rw [(hf 18 0 (by omega)).1]
  exact h3
set_option maxHeartbeats 4000000 in
theorem c_run (l : Launch) (S : qSt) {r i y z : Nat} {Y : YD} {V : PV} {cd : List Tok} {X0 : WF} (hY : y_ok Y) (hO : YO S y Y) (hV : PR S r V) (hP : p_ok Y V.1) (hw : lwf cd) (hL : LC S i (cd.map tkI)) (hz : WC S z) (hCI : CI Y cd (wE S) 0 z X0) : q_Met q_mt l 6 k_X8_run 0 [.inr (.inr (18, 0)), .inr (.inr (3, y)), .inr (.inr (12, i)), .inr (.inr (26, r))] S (fun _ S' => WI S r i z Y (X0 (0, 0, 0, V)) S') := by
  refine q_meth zoX8_run q_fos (Nat.le_of_ble_eq_true rfl) ?_
  intro AT step
  have hz150 := hz.2
  generalize hPhi : X0 (0, 0, 0, V) = Phi at *
  have eS : ∀ {S2 : qSt}, fr (Frn r i) S S2 → ∀ q j, q < 4 → wE S2 q j = wE S q j := fun hf q j hq => by
    unfold wE
    rw [(hf (19 + q) 0 (by omega)).1]
  have main := hCI (fun j j' X => j ≤ j' ∧ stab X ∧ (∀ s, wgd Y s → wgd Y (X s)) ∧ (j' ≤ z → ∀ (fin : WF) (p : Nat) (R0 : Nat → Int32), stab fin →
      (∀ s S2 t, WI S r i z Y s S2 → (∀ q, q < j → q_I S2 23 0 q = R0 q) → t + p ≤ 31 * s.1 → fin s = Phi → AT 1 [some (.inr (.inr (18, 0))), some (.inr (.inr (3, y))), some (.inr (.inr (12, i))), some (.inr (.inr (26, r))), some (.inl (nI s.1)), some (.inl (nI j')), some (.inl (nI t))] [] S2) →
      ∀ s S2 t, WI S r i z Y s S2 → (∀ q, q < j → q_I S2 23 0 q = R0 q) → t + p ≤ 31 * s.1 → fin (X s) = Phi → AT 1 [some (.inr (.inr (18, 0))), some (.inr (.inr (3, y))), some (.inr (.inr (12, i))), some (.inr (.inr (26, r))), some (.inl (nI s.1)), some (.inl (nI j)), some (.inl (nI t))] [] S2)) ?_ ?_ ?_
  · obtain ⟨-, -, -, main⟩ := main
    have main := main (Nat.le_refl _) id 0 (fun _ => 0) (fun _ _ => rfl) (fun s S2 t hI _ ht hf => by
      have hs := hI.1.1
      refine step 40 [(1, [true, true, true, true, true, true, true])] 1 _ _ _ ?_
      simp only [q_vcs, q_vcc, q_vl, q_vu, ↓reduceIte, Nat.reduceEqDiff, Bool.false_eq_true, q_isc, q_mk, q_msk, zbX8_run, q_pad, q_ent, q_get, q_put, q_nl, q_w, List.cons_append, List.nil_append, q_aks, q_als, Nat.reduceAdd, Nat.reduceLeDiff, Nat.zero_le, true_and, and_true, Option.some.injEq, Sum.inl.injEq, Sum.inr.injEq, true_or, or_true, and_self, q_sw]
      rw [hI.2.2.1.2.2, nI_leI (by omega) (by omega), show (1000000 : Int32) = nI 1000000 from rfl, nI_leI (by decide) (by omega)]
      have fin : WI S r i z Y Phi S2 := by rw [← hf]; exact hI
      exact ⟨fun _ => fin, fun _ => ⟨fun _ => fin, fun _ => ⟨fun _ => fin, fun h => absurd (Nat.le_refl _) h⟩⟩⟩)
    refine step 40 [(1, [true, true, true, true, true, true, true])] 0 _ _ _ ?_
    simp only [q_vcs, q_vcc, q_vl, q_vu, ↓reduceIte, Nat.reduceEqDiff, Bool.false_eq_true, q_isc, q_mk, q_msk, zbX8_run, q_pad, q_ent, q_get, q_put, q_nl, q_w, List.cons_append, List.nil_append, q_aks, q_als, Nat.reduceAdd, Nat.reduceLeDiff, Nat.zero_le, true_and, and_true, Option.some.injEq, Sum.inl.injEq, Sum.inr.injEq, true_or, or_true, and_self, q_sw]
    have hf0 : fr (Frn r i) S (q_wI (q_wI S 18 0 6 0) 18 0 7 0) := fr.wI (fr.wI fr.rf (Or.inl rfl)) (Or.inl rfl)
    refine main (0, 0, 0, V) _ 0 ⟨⟨Nat.zero_le _, hP⟩, hV.fr (F := fun f _ => f = 18) (fr.wI (F := fun f _ => f = 18) (fr.wI (F := fun f _ => f = 18) fr.rf rfl) rfl) (by omega) (by omega), ⟨?_, ?_, ?_⟩, hf0⟩ (fun q hq => by omega) (by omega) hPhi
    · simp [q_I_wI]; rfl
    · simp [q_I_wI]; rfl
    · simp [q_I_wI]; exact hz.1
  · intro j
    exact ⟨Nat.le_refl _, fun _ _ => rfl, fun _ h => h, fun _ fin p R0 _ hK s S2 t h1 h2 h3 h4 => hK s S2 t h1 h2 h3 h4⟩
  · intro j j' k a b c X h0 hk h1 h2 h3 ho ih
    obtain ⟨i1, i2, i3, i4⟩ := ih
    refine ⟨by omega, fun s hs => by dsimp only; rw [stab_stf Y cd k a b c s hs]; exact i2 s hs, fun s hs => i3 _ (wgd_stf hY ho hs), fun hj' fin p R0 hfin hK s S2 t hI hR ht hF => ?_⟩
    have hs := hI.1.1
    have e0 : q_I S2 19 0 j = nI k := by rw [← h0]; exact eS hI.2.2.2 0 j (by decide)
    have e1 : wE S2 1 j = nI a := by rw [← h1]; exact eS hI.2.2.2 1 j (by decide)
    have e2 : wE S2 2 j = nI b := by rw [← h2]; exact eS hI.2.2.2 2 j (by decide)
    have e3 : wE S2 3 j = nI c := by rw [← h3]; exact eS hI.2.2.2 3 j (by decide)
    have hO2 : YO S2 y Y := hO.fr hI.2.2.2 (fun f q1 q2 h => by omega)
    have hL2 : LC S2 i (cd.map tkI) := hL.fr hI.2.2.2 (by omega) (by omega)
    refine step 40 [(1, [true, true, true, true, true, true, true])] 1 _ _ _ ?_
    simp only [q_vcs, q_vcc, q_vl, q_vu, ↓reduceIte, Nat.reduceEqDiff, Bool.false_eq_true, q_isc, q_mk, q_msk, zbX8_run, q_pad, q_ent, q_get, q_put, q_nl, q_w, List.cons_append, List.nil_append, q_aks, q_als, Nat.reduceAdd, Nat.reduceLeDiff, Nat.zero_le, true_and, and_true, Option.some.injEq, Sum.inl.injEq, Sum.inr.injEq, true_or, or_true, and_self, q_sw]
    rw [hI.2.2.1.2.2, nI_leI (by omega) (by omega), show (1000000 : Int32) = nI 1000000 from rfl, nI_leI (by decide) (by omega), i_cl (by omega), e0, show (5 : Int32) = nI 5 from rfl, nI_eq (by omega) (by decide), show (4 : Int32) = nI 4 from rfl, nI_eq (by omega) (by decide), show (200 : Int32) = nI 200 from rfl, nI_ltI (by omega) (by decide), nI_1]
    refine ⟨fun h => absurd h (by omega), fun _ => ⟨fun h => absurd h (nI_pos (by omega)), fun _ => ⟨fun h => absurd h (by omega), fun _ => ⟨i_in (by omega) (by decide), fun _ => ⟨fun hb => ?_, fun hb => ?_⟩, fun h => absurd h (by omega)⟩⟩⟩⟩
    · refine ⟨i_in (by omega) (by decide), fun _ => ?_, fun h => absurd h (by omega)⟩
      refine ⟨_, _, (by decide : 5 < 6), c_doStep l S2 hY hO2 hI.2.1 hI.1.2 hw hL2 (by omega) hk e0 e1 e2 e3 ho, fun v S3 h4 => ?_⟩
      obtain ⟨hv, g1, g2⟩ := h4
      cases hv
      have c6 : q_I S3 18 0 6 = nI s.2.1 := by rw [(g2 18 0 (by omega)).1]; exact hI.2.2.1.1
      have c7 : q_I S3 18 0 7 = nI s.2.2.1 := by rw [(g2 18 0 (by omega)).1]; exact hI.2.2.1.2.1
      have c5 : q_I S3 18 0 5 = nI z := by rw [(g2 18 0 (by omega)).1]; exact hI.2.2.1.2.2
      refine ⟨_, _, (by decide : 0 < 6), c_countStep l S3 (stp Y cd k a b c s.2.2.2).isSome c6 c7, fun S4 h5 => ?_⟩
      obtain ⟨g3, g4, g5, g6⟩ := h5
      rw [nI_1, nI_1]
      have hr4 : ∀ q, q_I S4 23 0 q = q_I S2 23 0 q := fun q => by
        rw [(g6 23 0 (by omega)).1, (g2 23 0 (by omega)).1]
      have hwg := wgd_stf hY (cd := cd) ho hI.1
      have hst : (stf Y cd k a b c s).1 = s.1 + 1 ∧ WI S r i z Y (stf Y cd k a b c s) S4 := by
        have hfr : fr (Frn r i) S S4 := (hI.2.2.2.tr (g2.mn fun f j h => Or.inr (Or.inr h))).tr (g6.mn fun f j h => Or.inl h)
        have hPR := g1.fr g6 (by omega) (by omega)
        unfold stf at hwg ⊢
        rw [if_neg (by omega)] at hwg ⊢
        cases hsp : stp Y cd k a b c s.2.2.2 with
        | none =>
          rw [hsp] at hwg hPR g3 g4
          exact ⟨rfl, hwg, hPR, ⟨g3, g4, by rw [g5]; exact c5⟩, hfr⟩
        | some V' =>
          rw [hsp] at hwg hPR g3 g4
          exact ⟨rfl, hwg, hPR, ⟨g3, g4, by rw [g5]; exact c5⟩, hfr⟩
      rw [← hst.1]
      refine i4 hj' fin p (fun q => q_I S4 23 0 q) hfin (fun s' S5 t' hI' hR' ht' hF' => ?_) _ S4 (t + 1) hst.2 (fun _ _ => rfl) (by rw [hst.1]; omega) hF
      refine hK s' S5 t' hI' (fun q hq => ?_) ht' hF'
      rw [hR' q (by omega), hr4 q, hR q hq]
    · have e : X (stf Y cd k a b c s) = s := by
        rw [stab_stf Y cd k a b c s (by omega)]
        exact i2 s (by omega)
      dsimp only at hF
      rw [e, hfin s (by omega)] at hF
      rw [← hF]
      exact hI
  · intro j m j' N Xb X h0 h1 hN h2 hjm hm h3 h4 ib ih
    obtain ⟨b1, b2, b3, b4⟩ := ib
    obtain ⟨i1, i2, i3, i4⟩ := ih
    have wit : ∀ n s, wgd Y s → wgd Y (itr Xb n s) := by
      intro n
      induction n with
      | zero => intro s h; exact h
      | succ n ihn => intro s h; exact ihn _ (b3 s h)
    refine ⟨by omega, fun s hs => by dsimp only; rw [stab_agf N Xb s hs]; exact i2 s hs, fun s hs => i3 _ ?_, fun hj' fin p R0 hfin hK s S2 t hI hR ht hF => ?_⟩
    · unfold agf
      split
      · exact hs
      · exact wit N _ ⟨by show s.1 + 1 ≤ 200; omega, hs.2⟩
    have hs := hI.1.1
    have rest : ∀ s S2 t, WI S r i z Y s S2 → (∀ q, q < j → q_I S2 23 0 q = R0 q) → t + p ≤ 31 * s.1 → fin (X s) = Phi → AT 1 [some (.inr (.inr (18, 0))), some (.inr (.inr (3, y))), some (.inr (.inr (12, i))), some (.inr (.inr (26, r))), some (.inl (nI s.1)), some (.inl (nI (m + 1))), some (.inl (nI t))] [] S2 := by
      intro s S2 t hI hR ht hF
      refine i4 hj' fin p (fun q => q_I S2 23 0 q) hfin (fun s' S5 t' hI' hR' ht' hF' => ?_) s S2 t hI (fun _ _ => rfl) ht hF
      refine hK s' S5 t' hI' (fun q hq => ?_) ht' hF'
      rw [hR' q (by omega), hR q hq]
    have loop : ∀ (k : Nat), k ≤ 30 → ∀ s S2 t, WI S r i z Y s S2 → (∀ q, q < j → q_I S2 23 0 q = R0 q) → q_I S2 23 0 j = nI (k + 1) → t + (p + (k + 1)) ≤ 31 * s.1 → fin (X (itr Xb (k + 1) s)) = Phi → AT 1 [some (.inr (.inr (18, 0))), some (.inr (.inr (3, y))), some (.inr (.inr (12, i))), some (.inr (.inr (26, r))), some (.inl (nI s.1)), some (.inl (nI (j + 1))), some (.inl (nI t))] [] S2 := by
      intro k
      induction k with
      | zero => ?_
      | succ k ihk => ?_
      all_goals
        intro hk s S2 t hI hR hRj ht hF
        refine b4 (by omega) (fun s => fin (X (itr Xb _ s))) (p + _) (fun q => q_I S2 23 0 q) (fun s hs => by dsimp only; rw [stab_itr b2 _ s hs, i2 s hs, hfin s hs]) (fun s' S5 t' hI' hR' ht' hF' => ?_) s S2 t hI (fun _ _ => rfl) ht hF
        have hs' := hI'.1.1
        have e0 : q_I S5 19 0 m = nI 5 := by rw [← h3]; exact eS hI'.2.2.2 0 m (by decide)
        have e1 : wE S5 1 m = nI j := by rw [← h4]; exact eS hI'.2.2.2 1 m (by decide)
        refine step 40 [(1, [true, true, true, true, true, true, true])] 1 _ _ _ ?_
        simp only [q_vcs, q_vcc, q_vl, q_vu, ↓reduceIte, Nat.reduceEqDiff, Bool.false_eq_true, q_isc, q_mk, q_msk, zbX8_run, q_pad, q_ent, q_get, q_put, q_nl, q_w, List.cons_append, List.nil_append, q_aks, q_als, Nat.reduceAdd, Nat.reduceLeDiff, Nat.zero_le, true_and, and_true, Option.some.injEq, Sum.inl.injEq, Sum.inr.injEq, true_or, or_true, and_self, q_sw]
        rw [hI'.2.2.1.2.2, nI_leI (by omega) (by omega), show (1000000 : Int32) = nI 1000000 from rfl, nI_leI (by decide) (by omega), i_cl (by omega), e0]
        refine ⟨fun h => absurd h (by omega), fun _ => ⟨fun h => absurd h (nI_pos (by omega)), fun _ => ⟨fun h => absurd h (by omega), fun _ => ⟨i_in (by omega) (by decide), fun h => absurd rfl h, fun _ => ?_⟩⟩⟩⟩
        refine q_u1 (by decide) (c_endRound l S5 hm hjm e1 (by rw [hR' j (by omega)]; exact hRj) (by omega)) ?_
        rw [nI_1]
        have hI6 : ∀ v, WI S r i z Y s' (q_wI S5 23 0 j v) := fun v => wi_fr hI' (fr.wI (F := fun f _ => f = 23) fr.rf rfl)
        have hR6 : ∀ v q, q < j → q_I (q_wI S5 23 0 j v) 23 0 q = R0 q := fun v q hq => by
          rw [q_I_wI, if_neg (by omega), hR' q (by omega), hR q hq]
      · rw [if_neg (by omega)]
        exact rest s' _ (t' + 1) (hI6 _) (hR6 _) (by omega) hF'
      · rw [if_pos (by omega)]
        exact ihk (by omega) s' _ (t' + 1) (hI6 _) (hR6 _) (by rw [q_I_wI, if_pos ⟨rfl, rfl, rfl⟩]) (by omega) hF'
    have e0 : q_I S2 19 0 j = nI 4 := by rw [← h0]; exact eS hI.2.2.2 0 j (by decide)
    have e1 : q_I S2 20 0 j = nI N := by rw [← h1]; exact eS hI.2.2.2 1 j (by decide)
    have e2 : q_I S2 21 0 j = nI m := by rw [← h2]; exact eS hI.2.2.2 2 j (by decide)
    have e1' : q_I (q_wI S2 23 0 j (nI N)) 20 0 j = nI N := e1
    have e2' : q_I (q_wI S2 23 0 j (nI N)) 21 0 j = nI m := e2
    refine step 40 [(1, [true, true, true, true, true, true, true])] 1 _ _ _ ?_
    simp only [q_vcs, q_vcc, q_vl, q_vu, ↓reduceIte, Nat.reduceEqDiff, Bool.false_eq_true, q_isc, q_mk, q_msk, zbX8_run, q_pad, q_ent, q_get, q_put, q_nl, q_w, List.cons_append, List.nil_append, q_aks, q_als, Nat.reduceAdd, Nat.reduceLeDiff, Nat.zero_le, true_and, and_true, Option.some.injEq, Sum.inl.injEq, Sum.inr.injEq, true_or, or_true, and_self, q_sw]
    rw [hI.2.2.1.2.2, nI_leI (by omega) (by omega), show (1000000 : Int32) = nI 1000000 from rfl, nI_leI (by decide) (by omega), i_cl (by omega), e0, e1, e1', e2', show (200 : Int32) = nI 200 from rfl, nI_ltI (by omega) (by decide), nI_1, nI_1, nI_1, nI_1]
    refine ⟨fun h => absurd h (by omega), fun _ => ⟨fun h => absurd h (nI_pos (by omega)), fun _ => ⟨fun h => absurd h (by omega), fun _ => ⟨i_in (by omega) (by decide), fun _ => ⟨fun hb => ?_, fun hb => ?_⟩, fun h => absurd h (by decide)⟩⟩⟩⟩
    · have hI3 := wi_fr hI (S3 := q_wI S2 23 0 j (nI N)) (fr.wI (F := fun f _ => f = 23) fr.rf rfl)
      have hI4 : WI S r i z Y (s.1 + 1, s.2) (q_wI S2 23 0 j (nI N)) := ⟨⟨by show s.1 + 1 ≤ 200; omega, hI3.1.2⟩, hI3.2⟩
      have hR4 : ∀ q, q < j → q_I (q_wI S2 23 0 j (nI N)) 23 0 q = R0 q := fun q hq => by
        rw [q_I_wI, if_neg (by omega), hR q hq]
      dsimp only at hF
      unfold agf at hF
      rw [if_neg (by omega)] at hF
      refine ⟨i_in (by omega) (by decide), fun h => absurd rfl h, fun _ => ⟨i_in (by omega) (by decide), i_in (by omega) (by decide), i_in (by omega) (by decide), fun h => ?_, fun h => ?_⟩⟩
      · rw [show (0 : Int32) = nI 0 from rfl, nI_leI (by omega) (by decide)] at h
        have : N = 0 := by omega
        subst this
        refine ⟨i_in (by omega) (by decide), ?_⟩
        exact rest (s.1 + 1, s.2) _ (t + 1) hI4 hR4 (by show t + 1 + p ≤ 31 * (s.1 + 1); omega) hF
      · rw [show (0 : Int32) = nI 0 from rfl, nI_leI (by omega) (by decide)] at h
        obtain ⟨k, rfl⟩ : ∃ k, N = k + 1 := ⟨N - 1, by omega⟩
        exact loop k (by omega) (s.1 + 1, s.2) _ (t + 1) hI4 hR4 (by rw [q_I_wI, if_pos ⟨rfl, rfl, rfl⟩]) (by show t + 1 + (p + (k + 1)) ≤ 31 * (s.1 + 1); omega) hF
    · have e : X (agf N Xb s) = s := by
        rw [stab_agf N Xb s (by omega)]
        exact i2 s (by omega)
      dsimp only at hF
      rw [e, hfin s (by omega)] at hF
      rw [← hF]
      exact hI
