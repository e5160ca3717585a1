/-! the reference: the law's text -/
theorem c_mknownHere (l : Launch) (S : qSt) {T : Nat → Nat} {n a : Nat} (hR : MD S T n a none) : q_Met q_mt l 5 k_X11_knownHere 1 [.inr (.inr (40, 0))] S (fun r S' => r = some (.inl (oI (fct T (tx T n isb a) (tx T n isl (tx T n isb a))))) ∧ MD S' T n (if (fct T (tx T n isb a) (tx T n isl (tx T n isb a))).isSome then tx T n isl (tx T n isb a) else tx T n isb a) none ∧ ME S S') := by
  refine q_meth zoX11_knownHere q_fos (Nat.le_of_ble_eq_true rfl) ?_
  intro AT step
  refine step 20 [] 0 _ _ _ ?_
  simp only [q_vcs, q_vcc, q_vl, q_vu, ↓reduceIte, Nat.reduceEqDiff, Bool.false_eq_true, q_isc, q_mk, q_msk, zbX11_knownHere, q_pad, q_ent, q_get, q_put, q_nl, q_w, List.cons_append, List.nil_append, q_aks, q_als, Nat.reduceAdd, Nat.reduceLeDiff, Nat.zero_le, true_and, and_true, Option.some.injEq, Sum.inl.injEq, Sum.inr.injEq, true_or, or_true, and_self, q_sw]
  have et := tx_tx T n isb a
  unfold fct
  refine ⟨_, _, (by decide : 4 < 5), c_mtakes l S (i := 7) 12 5 14 7 20 8 hR (by decide) (by decide), fun v S1 h1 => ?_⟩
  obtain ⟨hv, h1⟩ := h1
  cases hv
  have hE1 := h1.2
  rw [bI_0]
  by_cases e0 : seg T (tx T n isb a) (tx T n isl (tx T n isb a)) = sw 7
  · rw [if_pos e0] at h1
    rw [if_pos e0, decide_eq_true e0]
    exact ⟨fun h => (by cases h), fun _ => ⟨rfl, h1.1, hE1⟩⟩
  rw [if_neg e0] at h1
  rw [if_neg e0, decide_eq_false e0]
  refine ⟨fun _ => ?_, fun h => absurd rfl h⟩
  refine ⟨_, _, (by decide : 4 < 5), c_mtakes l S1 (i := 8) 20 18 9 5 19 0 h1.1 (by decide) (by decide), fun v S2 h2 => ?_⟩
  obtain ⟨hv, h2⟩ := h2
  cases hv
  rw [et] at h2
  rw [et]
  have hE2 := hE1.tr h2.2
  rw [bI_0]
  by_cases e1 : seg T (tx T n isb a) (tx T n isl (tx T n isb a)) = sw 8
  · rw [if_pos e1] at h2
    rw [if_pos e1, decide_eq_true e1]
    exact ⟨fun h => (by cases h), fun _ => ⟨rfl, h2.1, hE2⟩⟩
  rw [if_neg e1] at h2
  rw [if_neg e1, decide_eq_false e1]
  refine ⟨fun _ => ?_, fun h => absurd rfl h⟩
  refine ⟨_, _, (by decide : 4 < 5), c_mtakes l S2 (i := 9) 8 15 21 18 0 0 h2.1 (by decide) (by decide), fun v S3 h3 => ?_⟩
  obtain ⟨hv, h3⟩ := h3
  cases hv
  rw [et] at h3
  rw [et]
  have hE3 := hE2.tr h3.2
  rw [bI_0]
  by_cases e2 : seg T (tx T n isb a) (tx T n isl (tx T n isb a)) = sw 9
  · rw [if_pos e2] at h3
    rw [if_pos e2, decide_eq_true e2]
    exact ⟨fun h => (by cases h), fun _ => ⟨rfl, h3.1, hE3⟩⟩
  rw [if_neg e2] at h3
  rw [if_neg e2, decide_eq_false e2]
  refine ⟨fun _ => ?_, fun h => absurd rfl h⟩
  refine ⟨_, _, (by decide : 4 < 5), c_mtakes l S3 (i := 4) 3 1 18 0 0 0 h3.1 (by decide) (by decide), fun v S4 h4 => ?_⟩
  obtain ⟨hv, h4⟩ := h4
  cases hv
  rw [et] at h4
  rw [et]
  have hE4 := hE3.tr h4.2
  rw [bI_0]
  by_cases e3 : seg T (tx T n isb a) (tx T n isl (tx T n isb a)) = sw 4
  · rw [if_pos e3] at h4
    rw [if_pos e3, decide_eq_true e3]
    exact ⟨fun h => (by cases h), fun _ => ⟨rfl, h4.1, hE4⟩⟩
  rw [if_neg e3] at h4
  rw [if_neg e3, decide_eq_false e3]
  refine ⟨fun _ => ?_, fun h => absurd rfl h⟩
  refine ⟨_, _, (by decide : 4 < 5), c_mtakes l S4 (i := 3) 12 1 14 5 0 0 h4.1 (by decide) (by decide), fun v S5 h5 => ?_⟩
  obtain ⟨hv, h5⟩ := h5
  cases hv
  rw [et] at h5
  rw [et]
  have hE5 := hE4.tr h5.2
  rw [bI_0]
  by_cases e4 : seg T (tx T n isb a) (tx T n isl (tx T n isb a)) = sw 3
  · rw [if_pos e4] at h5
    rw [if_pos e4, decide_eq_true e4]
    exact ⟨fun h => (by cases h), fun _ => ⟨rfl, h5.1, hE5⟩⟩
  rw [if_neg e4] at h5
  rw [if_neg e4, decide_eq_false e4]
  refine ⟨fun _ => ?_, fun h => absurd rfl h⟩
  refine ⟨_, _, (by decide : 4 < 5), c_mtakes l S5 (i := 10) 3 1 18 19 0 0 h5.1 (by decide) (by decide), fun v S6 h6 => ?_⟩
  obtain ⟨hv, h6⟩ := h6
  cases hv
  rw [et] at h6
  rw [et]
  have hE6 := hE5.tr h6.2
  rw [bI_0]
  by_cases e5 : seg T (tx T n isb a) (tx T n isl (tx T n isb a)) = sw 10
  · rw [if_pos e5] at h6
    rw [if_pos e5, decide_eq_true e5]
    exact ⟨fun h => (by cases h), fun _ => ⟨rfl, h6.1, hE6⟩⟩
  rw [if_neg e5] at h6
  rw [if_neg e5, decide_eq_false e5]
  refine ⟨fun _ => ?_, fun h => absurd rfl h⟩
  refine ⟨_, _, (by decide : 4 < 5), c_mtakes l S6 (i := 11) 13 15 22 5 4 0 h6.1 (by decide) (by decide), fun v S7 h7 => ?_⟩
  obtain ⟨hv, h7⟩ := h7
  cases hv
  rw [et] at h7
  rw [et]
  have hE7 := hE6.tr h7.2
  rw [bI_0]
  by_cases e6 : seg T (tx T n isb a) (tx T n isl (tx T n isb a)) = sw 11
  · rw [if_pos e6] at h7
    rw [if_pos e6, decide_eq_true e6]
    exact ⟨fun h => (by cases h), fun _ => ⟨rfl, h7.1, hE7⟩⟩
  rw [if_neg e6] at h7
  rw [if_neg e6, decide_eq_false e6]
  refine ⟨fun _ => ?_, fun h => absurd rfl h⟩
  refine ⟨_, _, (by decide : 4 < 5), c_mtakes l S7 (i := 12) 15 23 14 0 0 0 h7.1 (by decide) (by decide), fun v S8 h8 => ?_⟩
  obtain ⟨hv, h8⟩ := h8
  cases hv
  rw [et] at h8
  rw [et]
  have hE8 := hE7.tr h8.2
  rw [bI_0]
  by_cases e7 : seg T (tx T n isb a) (tx T n isl (tx T n isb a)) = sw 12
  · rw [if_pos e7] at h8
    rw [if_pos e7, decide_eq_true e7]
    exact ⟨fun h => (by cases h), fun _ => ⟨rfl, h8.1, hE8⟩⟩
  rw [if_neg e7] at h8
  rw [if_neg e7, decide_eq_false e7]
  exact ⟨fun _ => ⟨rfl, h8.1, hE8⟩, fun h => absurd rfl h⟩
theorem c_mnotes (l : Launch) (S : qSt) {T : Nat → Nat} {n : Nat} {s : PS} {m a b : Nat} (hR : MS S T n s) (hm : s.isLeft = true → q_I S 40 0 20 = nI m ∧ m < 160) : q_Met q_mt l 0 k_X11_notes 0 [.inr (.inr (40, 0)), .inl (nI a), .inl (nI b)] S (fun _ S' => (s.isLeft = true → q_I S' 40 0 20 = nI (m + 1) ∧ q_I S' 56 m 0 = nI a ∧ q_I S' 56 m 1 = nI b ∧ ∀ k, k ≠ m → q_I S' 56 k = q_I S 56 k) ∧ (∀ j, j ≠ 20 → q_I S' 40 0 j = q_I S 40 0 j) ∧ fr (fun f _ => f = 40 ∨ f = 56) S S') := by
  refine q_meth zoX11_notes q_fos (Nat.le_of_ble_eq_true rfl) ?_
  intro AT step
  refine step 20 [] 0 _ _ _ ?_
  simp only [q_vcs, q_vcc, q_vl, q_vu, ↓reduceIte, Nat.reduceEqDiff, Bool.false_eq_true, q_isc, q_mk, q_msk, zbX11_notes, q_pad, q_ent, q_get, q_put, q_nl, q_w, List.cons_append, List.nil_append, q_aks, q_als, Nat.reduceAdd, Nat.reduceLeDiff, Nat.zero_le, true_and, and_true, Option.some.injEq, Sum.inl.injEq, Sum.inr.injEq, true_or, or_true, and_self, q_sw]
  rw [ms_0 hR]
  cases s with
  | inr q => exact ⟨fun h => (by cases h), fun _ => ⟨fun h => (by cases h), fun _ _ => (by first | trivial | rfl | exact ⟨rfl, rfl⟩), fr.rf⟩⟩
  | inl p =>
    obtain ⟨h1, h2⟩ := hm rfl
    refine ⟨fun _ => ?_, fun h => absurd rfl h⟩
    have e1 : ∀ v, q_I (q_wI S 56 m 0 v) 40 0 20 = nI m := fun v => h1
    have e2 : ∀ v w, q_I (q_wI (q_wI S 56 m 0 v) 56 m 1 w) 40 0 20 = nI m := fun v w => h1
    rw [h1, i_cl (by omega)]
    simp only [e1, e2, i_cl (show m < 2 ^ 31 by omega), nI_1, show Int32.toNatClampNeg 0 = 0 from rfl, show Int32.toNatClampNeg 1 = 1 from rfl]
    refine ⟨i_in (by omega) (by decide), i_in (by decide) (by decide), i_in (by omega) (by decide), i_in (k := 1) (by decide) (by decide), fun _ => ⟨?_, ?_, ?_, fun k hk => ?_⟩, fun j hj => ?_, fr.wI (fr.wI (fr.wI fr.rf (Or.inr rfl)) (Or.inr rfl)) (Or.inl rfl)⟩
    · rw [q_I_wI, if_pos ⟨rfl, rfl, rfl⟩]
    · rw [q_I_wI, if_neg (by omega), q_I_wI, if_neg (by omega), q_I_wI, if_pos ⟨rfl, rfl, rfl⟩]
    · rw [q_I_wI, if_neg (by omega), q_I_wI, if_pos ⟨rfl, rfl, rfl⟩]
    · funext j
      rw [q_I_wI, if_neg (by omega), q_I_wI, if_neg (by omega), q_I_wI, if_neg (by omega)]
    · rw [q_I_wI, if_neg (by omega), q_I_wI, if_neg (by omega), q_I_wI, if_neg (by omega)]
theorem c_mopensOne (l : Launch) (S : qSt) {T : Nat → Nat} {n a o : Nat} (hR : MD S T n a none) (ho : q_I S 40 0 8 = nI o) (ho6 : o ≤ 6) : q_Met q_mt l 1 k_X11_opensOne 1 [.inr (.inr (40, 0))] S (fun r S' => r = some (.inl (bI (decide (o < 6)))) ∧ MD S' T n a (if o < 6 then none else some (3, a)) ∧ (o < 6 → q_I S' 40 0 8 = nI (o + 1)) ∧ (∀ j, ¬ (4 ≤ j ∧ j ≤ 6) → j ≠ 8 → q_I S' 40 0 j = q_I S 40 0 j) ∧ fr F40 S S') := by
  have hn := hR.1
  refine q_meth zoX11_opensOne q_fos (Nat.le_of_ble_eq_true rfl) ?_
  intro AT step
  refine step 20 [] 0 _ _ _ ?_
  simp only [q_vcs, q_vcc, q_vl, q_vu, ↓reduceIte, Nat.reduceEqDiff, Bool.false_eq_true, q_isc, q_mk, q_msk, zbX11_opensOne, q_pad, q_ent, q_get, q_put, q_nl, q_w, List.cons_append, List.nil_append, q_aks, q_als, Nat.reduceAdd, Nat.reduceLeDiff, Nat.zero_le, true_and, and_true, Option.some.injEq, Sum.inl.injEq, Sum.inr.injEq, true_or, or_true, and_self, q_sw]
  rw [ho, show (6 : Int32) = nI 6 from rfl, nI_eq (a := o) (b := 6) (by omega) (by decide), nI_1, mek_0 hR, hR.2.1.2.1]
  refine ⟨fun h => absurd rfl h, fun _ => ⟨fun h6 => ⟨fun h => absurd rfl h, fun _ => ?_⟩, fun h6 => ?_⟩⟩
  · have hR2 : MD (q_wI S 40 0 8 (nI (o + 1))) T n a none := ms_w (s := .inl a) hR (fun j hj => by rw [q_I_wI, if_neg (by omega)]) rfl
    rw [mek_0 hR2]
    refine ⟨fun h => absurd rfl h, fun _ => ?_⟩
    rw [decide_eq_true (by omega), if_pos (by omega)]
    refine ⟨rfl, hR2, fun _ => by rw [q_I_wI, if_pos ⟨rfl, rfl, rfl⟩], fun j _ hj => by rw [q_I_wI, if_neg (by omega)], fr40 fr.rf⟩
  · refine ⟨_, _, (by decide : 0 < 1), c_mwrong l S (k := 3) hR (by decide) (by omega), fun S1 h1 => ?_⟩
    rw [mek_0 h1.1]
    refine ⟨fun _ => ?_, fun h => (by cases h)⟩
    rw [decide_eq_false (by omega), if_neg (by omega)]
    exact ⟨rfl, h1.1, fun h => by omega, fun j hj _ => h1.2.1 j hj, h1.2.2⟩
/-- the law that is being read -/
def LmP (S : qSt) (s : PS) (c : List Tok) : Prop := ∀ b, s = .inl b → q_I S 40 0 20 = nI c.length ∧ c.length ≤ b ∧ ∀ k, k < c.length → q_I S 56 k 0 = nI (c.getD k (0, 0)).1 ∧ q_I S 56 k 1 = nI (c.getD k (0, 0)).2
/-- but for fields 4 to 6, 8, 20 nothing of the object has changed -/
def MlQ (S S' : qSt) : Prop := (∀ j, ¬ (4 ≤ j ∧ j ≤ 6) → j ≠ 8 → j ≠ 20 → q_I S' 40 0 j = q_I S 40 0 j) ∧ fr (fun f _ => f = 40 ∨ f = 56) S S'
theorem MlQ.rf {S : qSt} : MlQ S S := ⟨fun _ _ _ _ => rfl, fr.rf⟩
theorem MlQ.tr {S S1 S2 : qSt} (h : MlQ S S1) (h2 : MlQ S1 S2) : MlQ S S2 := ⟨fun j a b c => (h2.1 j a b c).trans (h.1 j a b c), h.2.tr h2.2⟩
theorem MlQ.e {S S' : qSt} (h : ME S S') : MlQ S S' := ⟨fun j a _ _ => h.1 j a, h.2.mn fun f k h => Or.inl h⟩
theorem lmp_e {S S' : qSt} {s : PS} {c : List Tok} (h : LmP S s c) (hE : ME S S') : LmP S' s c := fun b hb => by
  obtain ⟨h1, h2, h3⟩ := h b hb
  refine ⟨by rw [hE.1 20 (by decide)]; exact h1, h2, fun k hk => ?_⟩
  rw [(hE.2 56 k (fun q => by cases q)).1]
  exact h3 k hk
def LmQ (T : Nat → Nat) (n o : Nat) (x : PS × List Tok) (S S' : qSt) : Prop := MS S' T n x.1 ∧ LmP S' x.1 x.2 ∧ (x.1.isLeft = true → q_I S' 40 0 8 = nI o) ∧ MlQ S S'
def LmC (l : Launch) (T : Nat → Nat) (n m kk f : Nat) (D : Nat → Nat) : Prop := ∀ (o : Nat) (s : PS) (c : List Tok) (x : PS × List Tok) (S : qSt), lpS T n f m o s c = some x → o ≤ 6 → MS S T n s → LmP S s c → (s.isLeft = true → q_I S 40 0 8 = nI o) → q_Met q_mt l (D o) kk 0 [.inr (.inr (40, 0))] S (fun _ S' => LmQ T n o x S S')
def E4 (o : Nat) : Nat := 8 + 3 * (6 - o)
def E2 (o : Nat) : Nat := 9 + 3 * (6 - o)
def E0 (o : Nat) : Nat := 10 + 3 * (6 - o)
/-- a token noted behind what was read -/
theorem lmp_tok {S S' : qSt} {s : PS} {c : List Tok} {t : Tok} (h : ∀ b, s = .inl b → q_I S 40 0 20 = nI c.length ∧ c.length < b ∧ ∀ k, k < c.length → q_I S 56 k 0 = nI (c.getD k (0, 0)).1 ∧ q_I S 56 k 1 = nI (c.getD k (0, 0)).2) (hn : s.isLeft = true → q_I S' 40 0 20 = nI (c.length + 1) ∧ q_I S' 56 c.length 0 = nI t.1 ∧ q_I S' 56 c.length 1 = nI t.2 ∧ ∀ k, k ≠ c.length → q_I S' 56 k = q_I S 56 k) : LmP S' s (c ++ [t]) := fun b hb => by
  obtain ⟨h1, h2, h3⟩ := h b hb
  obtain ⟨g1, g2, g3, g4⟩ := hn (isL hb)
  refine ⟨by rw [g1]; simp, by simp; omega, fun k hk => ?_⟩
  simp at hk
  rw [List.getD_eq_getElem?_getD]
  by_cases e : k = c.length
  · subst e
    simp
    exact ⟨g2, g3⟩
  · rw [g4 k e, List.getElem?_append_left (by omega), ← List.getD_eq_getElem?_getD]
    exact h3 k (by omega)
