/-! The reference's commands: feed -/
abbrev Ftx : Nat → Nat → Prop := fun f _ => 40 ≤ f ∧ f < 80 ∧ f ≠ 42 ∧ f ≠ 44 ∧ f ≠ 46 ∧ f ≠ 48 ∧ f ≠ 52 ∧ f ≠ 54 ∧ f ≠ 58 ∧ f ≠ 65 ∧ f ≠ 68
theorem RF_tx {S S' : qSt} {a : AS} (h : RF S a) (e : ∀ j, j = 19 ∨ j = 33 ∨ j = 34 ∨ j = 35 ∨ j = 36 ∨ j = 47 → q_I S' 40 0 j = q_I S 40 0 j) (hf : fr Ftx S S') {T : Nat → Nat} {hd : Nat} {fp : Option Nat} (h6' : RF6 S' T hd) (h7' : q_I S' 40 0 3 = oI fp) : RF S' (aTx a T hd fp) := by
  obtain ⟨h1, h2, h3, h4, h5, h6, h7, h8, h9⟩ := h
  refine ⟨h1.fr hf (fun _ => by omega) (fun _ => by omega) (fun _ => by omega) (fun _ => by omega), ?_, ?_, ⟨?_, h4.2.1.fr hf (by omega), fun j hj => (h4.2.2 j hj).fr hf (by omega)⟩, ⟨?_, fun i hi => ?_⟩, h6', h7', ⟨?_, ?_⟩, ?_⟩
  · rcases h2 with ⟨e1, q⟩ | ⟨l0, q1, q2⟩
    · exact Or.inl ⟨e1, by rw [e 19 (by omega)]; exact q⟩
    · exact Or.inr ⟨l0, by rw [e 19 (by omega)]; exact q1, fun k hk' => by rw [(hf 54 k (by omega)).1]; exact q2 k hk'⟩
  · obtain ⟨m, w, o, ⟨q1, q2, q3⟩, k2⟩ := h3
    exact ⟨m, w, o, ⟨by rw [e 33 (by omega)]; exact q1, q2, fun z hz => by rw [(hf 58 z (by omega)).1]; exact q3 z hz⟩, k2⟩
  · rw [e 34 (by omega)]; exact h4.1
  · rw [e 36 (by omega)]; exact h5.1
  · unfold MI
    rw [(hf 68 i (by omega)).1]
    exact h5.2 i hi
  · rw [e 35 (by omega)]; exact h8.1
  · rw [(hf 42 0 (by omega)).1]; exact h8.2
  · rw [e 47 (by omega)]; exact h9
def xs9 (x1 x2 x3 x4 x5 : Int32) (q : Nat) : Int32 := if q = 0 then x1 else if q = 1 then x2 else if q = 2 then x3 else if q = 3 then x4 else x5
def fT9 (T : Nat → Nat) (h : Nat) (x : Nat → Int32) (i k : Nat) : Nat := if h ≤ k ∧ k < h + i then byt (x ((k - h) / 4)) (24 - 8 * ((k - h) % 4)) else T k
theorem fd5_f {T : Nat → Nat} {h : Nat} {x1 x2 x3 x4 x5 : Int32} : fd5 T h x1 x2 x3 x4 x5 = fT9 T h (xs9 x1 x2 x3 x4 x5) 20 := by
  funext k
  unfold fd5 fdT fT9
  by_cases c : h ≤ k ∧ k < h + 20
  · rw [if_pos c]
    by_cases c5 : h + 16 ≤ k ∧ k < h + 16 + 4
    · rw [if_pos c5, show (k - h) / 4 = 4 by omega, show (k - h) % 4 = k - (h + 16) by omega]; rfl
    · rw [if_neg c5]
      by_cases c4 : h + 12 ≤ k ∧ k < h + 12 + 4
      · rw [if_pos c4, show (k - h) / 4 = 3 by omega, show (k - h) % 4 = k - (h + 12) by omega]; rfl
      · rw [if_neg c4]
        by_cases c3 : h + 8 ≤ k ∧ k < h + 8 + 4
        · rw [if_pos c3, show (k - h) / 4 = 2 by omega, show (k - h) % 4 = k - (h + 8) by omega]; rfl
        · rw [if_neg c3]
          by_cases c2 : h + 4 ≤ k ∧ k < h + 4 + 4
          · rw [if_pos c2, show (k - h) / 4 = 1 by omega, show (k - h) % 4 = k - (h + 4) by omega]; rfl
          · rw [if_neg c2, if_pos (by omega), show (k - h) / 4 = 0 by omega, show (k - h) % 4 = k - h by omega]; rfl
  · rw [if_neg c, if_neg (by omega), if_neg (by omega), if_neg (by omega), if_neg (by omega), if_neg (by omega)]
def FI9 (S : qSt) (T : Nat → Nat) (h : Nat) (x : Nat → Int32) (i : Nat) (S1 : qSt) : Prop := q_I S1 40 0 1 = nI (h + i) ∧ (∀ k, k < 600 → fT9 T h x i k < 256 ∧ q_I S1 41 0 k = nI (fT9 T h x i k)) ∧ (∀ j, j ≠ 1 → q_I S1 40 0 j = q_I S 40 0 j) ∧ fr (fun f _ => f = 40 ∨ f = 41) S S1
theorem FI9_nx {S : qSt} {T : Nat → Nat} {h : Nat} {x : Nat → Int32} {i : Nat} {S1 : qSt} (hF : FI9 S T h x i S1) : FI9 S T h x (i + 1) (q_wI (q_wI S1 41 0 (h + i) (nI (byt (x (i / 4)) (24 - 8 * (i % 4))))) 40 0 1 (nI (h + i + 1))) := by
  obtain ⟨h1, h2, h3, h4⟩ := hF
  refine ⟨?_, fun k hk => ?_, fun j hj => ?_, fr.wI (fr.wI h4 (Or.inr rfl)) (Or.inl rfl)⟩
  · rw [q_I_wI, if_pos ⟨rfl, rfl, rfl⟩, Nat.add_assoc]
  · have ef : fT9 T h x (i + 1) k = if k = h + i then byt (x (i / 4)) (24 - 8 * (i % 4)) else fT9 T h x i k := by
      unfold fT9
      by_cases e : k = h + i
      · rw [if_pos e, if_pos (by omega), show k - h = i by omega]
      · rw [if_neg e]
        by_cases c : h ≤ k ∧ k < h + i
        · rw [if_pos c, if_pos (by omega)]
        · rw [if_neg c, if_neg (by omega)]
    rw [q_I_wI, if_neg (by omega), q_I_wI, ef]
    by_cases e : k = h + i
    · rw [if_pos e, if_pos (show 41 = 41 ∧ 0 = 0 ∧ k = h + i from ⟨rfl, rfl, e⟩)]
      exact ⟨byt_lt _ _, rfl⟩
    · rw [if_neg e, if_neg (show ¬ (41 = 41 ∧ 0 = 0 ∧ k = h + i) from fun z => e z.2.2)]
      exact h2 k hk
  · rw [q_I_wI, if_neg (by omega), q_I_wI, if_neg (by omega)]
    exact h3 j hj
theorem r_feed (l : Launch) {S : qSt} {a : AS} {B : Nat} (hR : RF S a) (hO : OKA a B) (x1 x2 x3 x4 x5 : Int32) : RA l k_X11_feed [.inr (.inr (40, 0)), .inl x1, .inl x2, .inl x3, .inl x4, .inl x5] S (sp_feed a x1 x2 x3 x4 x5) := by
  have hR0 := hR.th (v := 0)
  have h60 := hO.2.2.2.2.2.2.1
  have h1 := hR0.2.2.2.2.2.1.1
  unfold sp_feed
  by_cases h : aHd a + 20 ≤ 600
  · rw [if_pos h]
    refine RA_r (d := 5) (by decide) ?_
    refine q_meth zoX11_feed q_fos (Nat.le_of_ble_eq_true rfl) ?_
    intro AT step
    have hfin : ∀ S1, FI9 (q_wI S 40 0 0 0) (aT a) (aHd a) (xs9 x1 x2 x3 x4 x5) 20 S1 → q_I S1 40 0 1 = nI (aHd a + 20) ∧ q_I S1 40 0 0 = 0 ∧ RF S1 (aTx a (fd5 (aT a) (aHd a) x1 x2 x3 x4 x5) (aHd a + 20) (aFp a)) ∧ fr Frf S S1 := by
      intro S1 hF
      obtain ⟨g1, g2, g3, g4⟩ := hF
      refine ⟨g1, by rw [g3 0 (by decide), q_I_wI, if_pos ⟨rfl, rfl, rfl⟩], RF_tx hR0 (fun j hj => g3 j (by omega)) (g4.mn (fun f i z => by show 40 ≤ f ∧ f < 80 ∧ f ≠ 42 ∧ f ≠ 44 ∧ f ≠ 46 ∧ f ≠ 48 ∧ f ≠ 52 ∧ f ≠ 54 ∧ f ≠ 58 ∧ f ≠ 65 ∧ f ≠ 68; omega)) ⟨g1, fun k hk => by rw [fd5_f]; exact g2 k hk⟩ (by rw [g3 3 (by decide)]; exact hR0.2.2.2.2.2.2.1), fth.tr (g4.mn (fun f i z => by show 40 ≤ f ∧ f < 80; omega))⟩
    have k2 : ∀ r i S1, i + r = 20 → FI9 (q_wI S 40 0 0 0) (aT a) (aHd a) (xs9 x1 x2 x3 x4 x5) i S1 → AT 2 [some (.inr (.inr (40, 0))), some (.inl x1), some (.inl x2), some (.inl x3), some (.inl x4), some (.inl x5), some (.inl (nI i)), none] [] S1 := by
      intro r
      induction r with
      | zero =>
        intro i S1 hi hF
        have hi : i = 20 := by omega
        subst hi
        refine step 40 [(2, [true, true, true, true, true, true, true, false]), (7, [true, true, true, true, true, true, true, false])] 2 _ _ _ ?_
        simp only [q_vcs, q_vcc, q_vl, q_vu, ↓reduceIte, Nat.reduceEqDiff, Bool.false_eq_true, q_isc, q_mk, q_msk, zbX11_feed, q_pad, q_ent, q_get, q_put, q_nl, q_w, List.cons_append, List.nil_append, q_aks, q_als, Nat.reduceAdd, Nat.reduceLeDiff, Nat.zero_le, true_and, and_true, Option.some.injEq, Sum.inl.injEq, Sum.inr.injEq, true_or, or_true, and_self, q_sw]
        exact ⟨fun _ => hfin S1 hF, fun q => absurd (by decide) q⟩
      | succ r ih =>
        intro i S1 hi hF
        have ih := ih (i + 1) _ (by omega) (FI9_nx hF)
        have k7 : ∀ v, v = xs9 x1 x2 x3 x4 x5 (i / 4) → AT 7 [some (.inr (.inr (40, 0))), some (.inl x1), some (.inl x2), some (.inl x3), some (.inl x4), some (.inl x5), some (.inl (nI i)), none] [.inl v] S1 := by
          intro v hv
          refine step 40 [(2, [true, true, true, true, true, true, true, false]), (7, [true, true, true, true, true, true, true, false])] 7 _ _ _ ?_
          simp only [q_vcs, q_vcc, q_vl, q_vu, ↓reduceIte, Nat.reduceEqDiff, Bool.false_eq_true, q_isc, q_mk, q_msk, zbX11_feed, q_pad, q_ent, q_get, q_put, q_nl, q_w, List.cons_append, List.nil_append, q_aks, q_als, Nat.reduceAdd, Nat.reduceLeDiff, Nat.zero_le, true_and, and_true, Option.some.injEq, Sum.inl.injEq, Sum.inr.injEq, true_or, or_true, and_self, q_sw]
          have et : q_I (q_wI S1 41 0 (aHd a + i) (nI (byt (xs9 x1 x2 x3 x4 x5 (i / 4)) (24 - 8 * (i % 4))))) 40 0 1 = nI (aHd a + i) := by rw [q_I_wI, if_neg (by omega)]; exact hF.1
          rw [hF.1, i_cl (by omega), show (4 : Int32) = nI 4 from rfl, i_rem (a := i) (d := 4) (by omega) (by decide) (by decide), show (8 : Int32) = nI 8 from rfl, pk_mul, show (24 : Int32) = nI 24 from rfl, i_subL (by omega), i_byt v (by omega), hv, et, nI_1, nI_1]
          exact ⟨by decide, i_in (by omega) (by decide), ih⟩
        refine step 40 [(2, [true, true, true, true, true, true, true, false]), (7, [true, true, true, true, true, true, true, false])] 2 _ _ _ ?_
        simp only [q_vcs, q_vcc, q_vl, q_vu, ↓reduceIte, Nat.reduceEqDiff, Bool.false_eq_true, q_isc, q_mk, q_msk, zbX11_feed, q_pad, q_ent, q_get, q_put, q_nl, q_w, List.cons_append, List.nil_append, q_aks, q_als, Nat.reduceAdd, Nat.reduceLeDiff, Nat.zero_le, true_and, and_true, Option.some.injEq, Sum.inl.injEq, Sum.inr.injEq, true_or, or_true, and_self, q_sw]
        rw [show (20 : Int32) = nI 20 from rfl, show (4 : Int32) = nI 4 from rfl, show (8 : Int32) = nI 8 from rfl, show (12 : Int32) = nI 12 from rfl, show (16 : Int32) = nI 16 from rfl, nI_leI (by decide) (by omega), nI_leI (by decide) (by omega), nI_leI (by decide) (by omega), nI_leI (by decide) (by omega), nI_leI (by decide) (by omega)]
        refine ⟨fun q => absurd q (by omega), fun _ => ⟨fun c1 => ⟨fun c2 => ⟨fun c3 => ⟨fun c4 => k7 _ ?_, fun c4 => k7 _ ?_⟩, fun c3 => k7 _ ?_⟩, fun c2 => k7 _ ?_⟩, fun c1 => k7 _ ?_⟩⟩
        · rw [show i / 4 = 4 by omega]; rfl
        · rw [show i / 4 = 3 by omega]; rfl
        · rw [show i / 4 = 2 by omega]; rfl
        · rw [show i / 4 = 1 by omega]; rfl
        · rw [show i / 4 = 0 by omega]; rfl
    refine step 40 [(2, [true, true, true, true, true, true, true, false]), (7, [true, true, true, true, true, true, true, false])] 0 _ _ _ ?_
    simp only [q_vcs, q_vcc, q_vl, q_vu, ↓reduceIte, Nat.reduceEqDiff, Bool.false_eq_true, q_isc, q_mk, q_msk, zbX11_feed, q_pad, q_ent, q_get, q_put, q_nl, q_w, List.cons_append, List.nil_append, q_aks, q_als, Nat.reduceAdd, Nat.reduceLeDiff, Nat.zero_le, true_and, and_true, Option.some.injEq, Sum.inl.injEq, Sum.inr.injEq, true_or, or_true, and_self, q_sw]
    rw [h1, show (20 : Int32) = nI 20 from rfl, nI_add, show (600 : Int32) = nI 600 from rfl, nI_leI (by omega) (by decide)]
    refine ⟨fun _ => ?_, fun q => absurd h q⟩
    refine k2 20 0 _ (by decide) ⟨h1, fun k hk => ?_, fun _ _ => rfl, fr.rf⟩
    unfold fT9
    rw [if_neg (by omega)]
    exact hR0.2.2.2.2.2.1.2 k hk
  · rw [if_neg h]
    refine RA_s (d := 5) (by decide) hR ?_
    refine q_meth zoX11_feed q_fos (Nat.le_of_ble_eq_true rfl) ?_
    intro AT step
    refine step 40 [(2, [true, true, true, true, true, true, true, false]), (7, [true, true, true, true, true, true, true, false])] 0 _ _ _ ?_
    simp only [q_vcs, q_vcc, q_vl, q_vu, ↓reduceIte, Nat.reduceEqDiff, Bool.false_eq_true, q_isc, q_mk, q_msk, zbX11_feed, q_pad, q_ent, q_get, q_put, q_nl, q_w, List.cons_append, List.nil_append, q_aks, q_als, Nat.reduceAdd, Nat.reduceLeDiff, Nat.zero_le, true_and, and_true, Option.some.injEq, Sum.inl.injEq, Sum.inr.injEq, true_or, or_true, and_self, q_sw]
    rw [h1, show (20 : Int32) = nI 20 from rfl, nI_add, show (600 : Int32) = nI 600 from rfl, nI_leI (by omega) (by decide)]
    exact ⟨fun q => absurd q h, fun _ => by first | trivial | exact ⟨rfl, rfl⟩⟩
