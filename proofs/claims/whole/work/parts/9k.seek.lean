/-! The class's search: passes -/
theorem fr.wM {F : Nat → Nat → Prop} {S S1 : qSt} (h : fr F S S1) {f i j v : Nat} (hF : F f i) : fr F S (q_wM S1 f i j v) := fun g k hn => by
  have e : ¬ (g = f ∧ k = i) := fun q => hn (by rw [q.1, q.2]; exact hF)
  obtain ⟨h1, h2, h3⟩ := h g k hn
  refine ⟨h1, h2, ?_⟩
  funext c
  rw [q_M_wM, if_neg (fun q => e ⟨q.1, q.2.1⟩)]
  exact congrFun h3 c
abbrev Ans (Y : YD) (w : Nat) (g : Option Nat) (P0 : Nat → List Nat) (r : Option Nat) (f : Nat) : Prop := An (mvE Y w g) (stl Y g P0) (fun P => rch P g = true) r f
theorem An_0 {V : Type} {E : V → Nat → V → Prop} {s : V} {G : V → Prop} (h : G s) (f : Nat) : An E s G (some 0) f := ⟨⟨s, 0, rfl, h, fun q => absurd q (by decide)⟩, fun _ _ _ _ _ => ⟨Nat.zero_le _, fun _ q => absurd q (by decide)⟩⟩
def SPq (S : qSt) (y : Nat) (Y : YD) (w : Nat) (g : Option Nat) (t : Nat) : Prop := SO S y (nI w) g ∧ YO S y Y ∧ TS S t ∧ q_I S 29 0 10 = -1 ∧ q_I S 29 0 11 = -1
theorem SPq.wI {S : qSt} {y : Nat} {Y : YD} {w : Nat} {g : Option Nat} {t j : Nat} {z : Int32} (h : SPq S y Y w g t) (hj : j = 8 ∨ j = 9) : SPq (q_wI S 29 0 j z) y Y w g t := by
  obtain ⟨s1, s2, s3, s4, s5⟩ := h
  refine ⟨⟨s1.1, ?_, ?_, s1.2.2.2⟩, s2.fr (F := Fsr) (fr.wI fr.rf (Or.inl rfl)) (fun f h1 h2 q => by rcases q with q | q | q | q <;> omega), s3.wI (by omega), ?_, ?_⟩
  · rw [q_I_wI, if_neg (by omega)]; exact s1.2.1
  · rw [q_I_wI, if_neg (by omega)]; exact s1.2.2.1
  · rw [q_I_wI, if_neg (by omega)]; exact s4
  · rw [q_I_wI, if_neg (by omega)]; exact s5
theorem bI_c (b : Bool) : bI b = 0 ↔ b = false := bI_0 b
theorem c_seek (l : Launch) (S : qSt) {y : Nat} {Y : YD} {w : Nat} {g : Option Nat} {P0 : Nat → List Nat} {t : Nat} (hY : y_ok Y) (hw4 : w ≤ 4) (hP : p_ok Y P0) (hw : fitW Y w P0) (hO : YO S y Y) (hT : TS S t) (ht : t + 5 < 65536) (hgc : ∀ c, g = some c → c < 6) : q_Met q_mt l 7 k_X5_seek 1 [.inr (.inr (29, 0)), .inr (.inr (3, y)), .inl (nI w), .inr (.inl (lN (es P0))), .inl (oI g)] S (fun v S' => ∃ r f, v = some (.inl (oI r)) ∧ Ans Y w g P0 r f ∧ (∀ F, r = some (F + 1) → F < 2 ^ 20 ∧ q_I S' 29 0 11 = nI f) ∧ ((∀ F, r ≠ some (F + 1)) → q_I S' 29 0 11 = -1) ∧ (∃ t', t' ≤ t + 5 ∧ TS S' t') ∧ fr Fsr S S') := by
  have hR0 := RSx_0 (w := w) g hP hw
  have hle := lst_le hR0.1 g
  refine q_meth zoX5_seek q_fos (Nat.le_of_ble_eq_true rfl) ?_
  intro AT step
  have exA : ∀ S1 t1, t1 ≤ t + 5 → fr Fsr S S1 → FD Y w g P0 t1 S1 → ∃ r f, q_I S1 29 0 10 = oI r ∧ Ans Y w g P0 r f ∧ (∀ F, r = some (F + 1) → F < 2 ^ 20 ∧ q_I S1 29 0 11 = nI f) ∧ ((∀ F, r ≠ some (F + 1)) → q_I S1 29 0 11 = -1) ∧ (∃ t', t' ≤ t + 5 ∧ TS S1 t') ∧ fr Fsr S S1 := by
    intro S1 t1 h1 hf hD
    obtain ⟨F, f, d1, d2, d3, d4, d5⟩ := hD
    refine ⟨some (F + 1), f, by rw [d3]; rfl, d2, fun F' e => ?_, fun h => absurd rfl (h F), ⟨t1, h1, d5⟩, hf⟩
    cases e
    exact ⟨d1, d4⟩
  have exB : ∀ S1 t1, t1 ≤ t + 5 → fr Fsr S S1 → SPq S1 y Y w g t1 → Ans Y w g P0 none 0 → ∃ r f, q_I S1 29 0 10 = oI r ∧ Ans Y w g P0 r f ∧ (∀ F, r = some (F + 1) → F < 2 ^ 20 ∧ q_I S1 29 0 11 = nI f) ∧ ((∀ F, r ≠ some (F + 1)) → q_I S1 29 0 11 = -1) ∧ (∃ t', t' ≤ t + 5 ∧ TS S1 t') ∧ fr Fsr S S1 := by
    intro S1 t1 h1 hf hD hA
    exact ⟨none, 0, by rw [hD.2.2.2.1]; rfl, hA, (fun F e => by cases e), fun _ => hD.2.2.2.2, ⟨t1, h1, hD.2.2.1⟩, hf⟩
  have h4 : ¬ rch (stl Y g P0) g = true → ∀ r p S1, p + r = 5 → fr Fsr S S1 → ((∃ t1, t1 ≤ t + p ∧ FD Y w g P0 t1 S1) ∨ ∃ t1 cut, t1 ≤ t + p ∧ SPq S1 y Y w g t1 ∧ q_I S1 29 0 9 = bI cut ∧ ((cut = false ∨ p = 5) → Ans Y w g P0 none 0)) → AT 4 [some (.inr (.inr (29, 0))), some (.inr (.inr (3, y))), some (.inl (nI w)), some (.inr (.inl (lN (es P0)))), none, some (.inl (oI g)), some (.inr (.inl (lN (es (stl Y g P0))))), none, some (.inl (nI (lst9 Y (stl Y g P0) g))), some (.inl (nI p))] [] S1 := by
    intro hg r
    induction r with
    | zero =>
      intro p S1 hp hf hJ
      have hp : p = 5 := by omega
      subst hp
      have key : ∃ r f, q_I S1 29 0 10 = oI r ∧ Ans Y w g P0 r f ∧ (∀ F, r = some (F + 1) → F < 2 ^ 20 ∧ q_I S1 29 0 11 = nI f) ∧ ((∀ F, r ≠ some (F + 1)) → q_I S1 29 0 11 = -1) ∧ (∃ t', t' ≤ t + 5 ∧ TS S1 t') ∧ fr Fsr S S1 := by
        rcases hJ with ⟨t1, h1, hD⟩ | ⟨t1, cut, h1, hD, _, hA⟩
        · exact exA S1 t1 h1 hf hD
        · exact exB S1 t1 h1 hf hD (hA (Or.inr rfl))
      refine step 40 [(2, [true, true, true, true, true, true, true, true, false, false]), (4, [true, true, true, true, true, true, true, true, true, true])] 4 _ _ _ ?_
      simp only [q_vcs, q_vcc, q_vl, q_vu, ↓reduceIte, Nat.reduceEqDiff, Bool.false_eq_true, q_isc, q_mk, q_msk, zbX5_seek, q_pad, q_ent, q_get, q_put, q_nl, q_w, List.cons_append, List.nil_append, q_aks, q_als, Nat.reduceAdd, Nat.reduceLeDiff, Nat.zero_le, true_and, and_true, Option.some.injEq, Sum.inl.injEq, Sum.inr.injEq, true_or, or_true, and_self, q_sw]
      exact ⟨fun _ => key, fun h => absurd (by decide) h⟩
    | succ r ih =>
      intro p S1 hp hf hJ
      rcases hJ with ⟨t1, h1, hD⟩ | ⟨t1, cut, h1, hD, hc, hA⟩
      · have key := exA S1 t1 (by omega) hf hD
        have hne : ¬ q_I S1 29 0 10 = -1 := by
          obtain ⟨F, f, d1, d2, d3, d4, d5⟩ := hD
          rw [d3]
          exact i_ne1 (by omega)
        refine step 40 [(2, [true, true, true, true, true, true, true, true, false, false]), (4, [true, true, true, true, true, true, true, true, true, true])] 4 _ _ _ ?_
        simp only [q_vcs, q_vcc, q_vl, q_vu, ↓reduceIte, Nat.reduceEqDiff, Bool.false_eq_true, q_isc, q_mk, q_msk, zbX5_seek, q_pad, q_ent, q_get, q_put, q_nl, q_w, List.cons_append, List.nil_append, q_aks, q_als, Nat.reduceAdd, Nat.reduceLeDiff, Nat.zero_le, true_and, and_true, Option.some.injEq, Sum.inl.injEq, Sum.inr.injEq, true_or, or_true, and_self, q_sw]
        exact ⟨fun _ => key, fun _ => ⟨fun _ => key, fun _ => ⟨fun _ => key, fun h => absurd h hne⟩⟩⟩
      · have go : ∀ lim, lim ≤ 20000 → lst9 Y (stl Y g P0) g ≤ lim → (p = 4 → lim = 20000) → ∃ d' post, d' < 7 ∧ q_Met q_mt l d' k_X5_spread 0 [.inr (.inr (29, 0)), .inr (.inl (lN (es (stl Y g P0))))] (q_wI S1 29 0 8 (nI lim)) post ∧ ∀ S', post none S' → AT 4 [some (.inr (.inr (29, 0))), some (.inr (.inr (3, y))), some (.inl (nI w)), some (.inr (.inl (lN (es P0)))), none, some (.inl (oI g)), some (.inr (.inl (lN (es (stl Y g P0))))), none, some (.inl (nI (lst9 Y (stl Y g P0) g))), some (.inl (nI (p + 1)))] [] S' := by
          intro lim hl1 hl2 hl3
          have hq := hD.wI (j := 8) (z := nI lim) (Or.inl rfl)
          have hsp : SPp (q_wI S1 29 0 8 (nI lim)) y Y w g lim t1 := ⟨hq.1, hq.2.1, hq.2.2.1, by rw [q_I_wI, if_pos ⟨rfl, rfl, rfl⟩], hq.2.2.2.1, hq.2.2.2.2⟩
          refine ⟨_, _, (by decide : 6 < 7), c_spread l _ hY hw4 hP hw hl1 hsp (by omega) hg hl2, fun S2 h2 => ?_⟩
          obtain ⟨f2, h2⟩ := h2
          refine ih (p + 1) S2 (by omega) ((fr.wI hf (Or.inl rfl)).tr f2) ?_
          rcases h2 with h2 | ⟨cut2, h2, h3, h4⟩
          · exact Or.inl ⟨t1 + 1, by omega, h2⟩
          · refine Or.inr ⟨t1 + 1, cut2, by omega, ⟨h2.1, h2.2.1, h2.2.2.1, h2.2.2.2.2.1, h2.2.2.2.2.2⟩, h3, fun q => h4 ?_⟩
            rcases q with q | q
            · exact Or.inl q
            · exact Or.inr (hl3 (by omega))
        refine step 40 [(2, [true, true, true, true, true, true, true, true, false, false]), (4, [true, true, true, true, true, true, true, true, true, true])] 4 _ _ _ ?_
        simp only [q_vcs, q_vcc, q_vl, q_vu, ↓reduceIte, Nat.reduceEqDiff, Bool.false_eq_true, q_isc, q_mk, q_msk, zbX5_seek, q_pad, q_ent, q_get, q_put, q_nl, q_w, List.cons_append, List.nil_append, q_aks, q_als, Nat.reduceAdd, Nat.reduceLeDiff, Nat.zero_le, true_and, and_true, Option.some.injEq, Sum.inl.injEq, Sum.inr.injEq, true_or, or_true, and_self, q_sw]
        rw [hc, bI_0, hD.2.2.2.1, show (4 : Int32) = nI 4 from rfl, nI_ltI (by decide) (by omega), nI_leI (by decide) (by omega), nI_add, nI_1, show (20000 : Int32) = nI 20000 from rfl]
        refine ⟨fun h => absurd h (by omega), fun _ => ⟨fun h => ?_, fun h => ⟨fun h => absurd rfl h, fun _ => ⟨fun h => go 20000 (by decide) (by omega) (fun _ => rfl), fun h => go _ (by omega) (by omega) (fun e => by omega)⟩⟩⟩⟩
        have := exB S1 t1 (by omega) hf hD (hA (Or.inl h))
        rw [hD.2.2.2.1] at this
        exact this
  have hf1 : fr Fsr S (q_wI (q_wI (q_wI (q_wI (q_wM S 29 0 5 y) 29 0 6 (nI w)) 29 0 7 (oI g)) 29 0 10 (-1)) 29 0 11 (-1)) := fr.wI (fr.wI (fr.wI (fr.wI (fr.wM fr.rf (Or.inl rfl)) (Or.inl rfl)) (Or.inl rfl)) (Or.inl rfl)) (Or.inl rfl)
  have hq1 : SPq (q_wI (q_wI (q_wI (q_wI (q_wM S 29 0 5 y) 29 0 6 (nI w)) 29 0 7 (oI g)) 29 0 10 (-1)) 29 0 11 (-1)) y Y w g t := by
    refine ⟨⟨?_, ?_, ?_, hgc⟩, hO.fr hf1 (fun f h1 h2 q => by rcases q with q | q | q | q <;> omega), ?_, ?_, ?_⟩
    · simp [q_M_wI, q_M_wM]
    · simp [q_I_wI]
    · simp [q_I_wI]
    · have hT1 : TS (q_wM S 29 0 5 y) t := hT
      exact ((((hT1.wI (by decide)).wI (by decide)).wI (by decide)).wI (by decide))
    · simp [q_I_wI]
    · simp [q_I_wI]
  generalize hS1 : q_wI (q_wI (q_wI (q_wI (q_wM S 29 0 5 y) 29 0 6 (nI w)) 29 0 7 (oI g)) 29 0 10 (-1)) 29 0 11 (-1) = S1 at hf1 hq1
  have h2 : AT 2 [some (.inr (.inr (29, 0))), some (.inr (.inr (3, y))), some (.inl (nI w)), some (.inr (.inl (lN (es P0)))), none, some (.inl (oI g)), none, none, none, none] [.inr (.inl (lN (es (stl Y g P0))))] S1 := by
    refine step 40 [(2, [true, true, true, true, true, true, true, true, false, false]), (4, [true, true, true, true, true, true, true, true, true, true])] 2 _ _ _ ?_
    simp only [q_vcs, q_vcc, q_vl, q_vu, ↓reduceIte, Nat.reduceEqDiff, Bool.false_eq_true, q_isc, q_mk, q_msk, zbX5_seek, q_pad, q_ent, q_get, q_put, q_nl, q_w, List.cons_append, List.nil_append, q_aks, q_als, Nat.reduceAdd, Nat.reduceLeDiff, Nat.zero_le, true_and, and_true, Option.some.injEq, Sum.inl.injEq, Sum.inr.injEq, true_or, or_true, and_self, q_sw]
    refine q_u1 (by decide) (c_isReached l S1 hq1.1 hR0.1.1) ?_
    rw [bI_0]
    refine ⟨fun h => ?_, fun h => ?_⟩
    · have hng : ¬ rch (stl Y g P0) g = true := by rw [h]; decide
      refine q_u1 (by decide) (c_leastFrom l S1 hq1.1 hY hq1.2.1 hR0.1) ?_
      refine h4 hng 5 0 _ (by omega) (fr.wI hf1 (Or.inl rfl)) (Or.inr ⟨t, true, by omega, hq1.wI (Or.inr rfl), ?_, fun q => ?_⟩)
      · rw [q_I_wI, if_pos ⟨rfl, rfl, rfl⟩]; rfl
      · rcases q with q | q
        · cases q
        · cases q
    · have hg : rch (stl Y g P0) g = true := by simpa using h
      exact ⟨some 0, 0, rfl, An_0 (G := fun P => rch P g = true) hg 0, (fun F e => by cases e), fun _ => hq1.2.2.2.2, ⟨t, by omega, hq1.2.2.1⟩, hf1⟩
  refine step 40 [(2, [true, true, true, true, true, true, true, true, false, false]), (4, [true, true, true, true, true, true, true, true, true, true])] 0 _ _ _ ?_
  simp only [q_vcs, q_vcc, q_vl, q_vu, ↓reduceIte, Nat.reduceEqDiff, Bool.false_eq_true, q_isc, q_mk, q_msk, zbX5_seek, q_pad, q_ent, q_get, q_put, q_nl, q_w, List.cons_append, List.nil_append, q_aks, q_als, Nat.reduceAdd, Nat.reduceLeDiff, Nat.zero_le, true_and, and_true, Option.some.injEq, Sum.inl.injEq, Sum.inr.injEq, true_or, or_true, and_self, q_sw]
  rw [hS1, hq1.1.2.2.1, hq1.1.1]
  cases hg : g with
  | none =>
    refine ⟨fun h => absurd rfl h, fun _ => ?_⟩
    refine q_u2 (by decide) (c_letOut l S1 hY hq1.2.1 hP.1) ?_
    rw [hg] at h2
    exact h2
  | some c =>
    rw [hg] at h2
    exact ⟨fun _ => h2, fun h => absurd h (i_ne1 (n := c) (by have := hgc c hg; omega))⟩
