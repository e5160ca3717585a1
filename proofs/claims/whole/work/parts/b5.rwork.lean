/-! The reference's commands: work -/
theorem RF_im2 {S S' : qSt} {a : AS} (h : RF S a) (e : ∀ j, j = 1 ∨ j = 3 ∨ j = 19 ∨ j = 33 ∨ j = 36 ∨ j = 47 → q_I S' 40 0 j = q_I S 40 0 j) (hf : fr (fun f i => f = 40 ∨ (f = 65 ∧ (i = 0 ∨ 4 ≤ i)) ∨ f = 61 ∨ f = 62) S S') {w : Nat} {hh : Nat → PV} {rs : Nat} (h4' : RF4 S' w hh) (h8' : q_I S' 40 0 35 = nI rs) : RF S' (mkA (aY a) (aC a) (aLn a) (aOi a) w hh (aNi a) (aIm a) (aT a) (aHd a) (aFp a) rs (aRn a) (aRi a)) := by
  obtain ⟨h1, h2, h3, h4, h5, h6, h7, h8, h9⟩ := h
  refine ⟨h1.fr hf (fun _ => by omega) (fun _ => by omega) (fun _ => by omega) (fun _ => by omega), ?_, ?_, h4', ⟨?_, fun i hi => ?_⟩, ⟨?_, ?_⟩, ?_, ⟨h8', ?_⟩, ?_⟩
  · rcases h2 with ⟨e1, q⟩ | ⟨l0, q1, q2⟩
    · exact Or.inl ⟨e1, by rw [e 19 (by decide)]; exact q⟩
    · exact Or.inr ⟨l0, by rw [e 19 (by decide)]; exact q1, fun k hk' => by rw [(hf 54 k (by omega)).1]; exact q2 k hk'⟩
  · obtain ⟨m, w, o, ⟨q1, q2, q3⟩, k2⟩ := h3
    exact ⟨m, w, o, ⟨by rw [e 33 (by decide)]; exact q1, q2, fun z hz => by rw [(hf 58 z (by omega)).1]; exact q3 z hz⟩, k2⟩
  · rw [e 36 (by decide)]; exact h5.1
  · unfold MI
    rw [(hf 68 i (by omega)).1]
    exact h5.2 i hi
  · rw [e 1 (by decide)]; exact h6.1
  · rw [(hf 41 0 (by omega)).1]; exact h6.2
  · rw [e 3 (by decide)]; exact h7
  · rw [(hf 42 0 (by omega)).1]; exact h8.2
  · rw [e 47 (by decide)]; exact h9
def KW (S S1 : qSt) : Prop := (∀ j, j = 0 ∨ (9 ≤ j ∧ j ≠ 28) → q_I S1 40 0 j = q_I S 40 0 j) ∧ q_I S1 40 0 1 = nI 0 ∧ fr Ftx S S1
theorem KW.q {S S1 S2 : qSt} (h : KW S S1) (hE : MwQ S1 S2) : KW S S2 := ⟨fun j hj => by rw [hE.1 j (by omega) (by omega) (by omega)]; exact h.1 j hj, by rw [hE.1 1 (by omega) (by omega) (by omega)]; exact h.2.1, h.2.2.tr (hE.2.mn (fun f i z => by show 40 ≤ f ∧ f < 80 ∧ f ≠ 42 ∧ f ≠ 44 ∧ f ≠ 46 ∧ f ≠ 48 ∧ f ≠ 52 ∧ f ≠ 54 ∧ f ≠ 58 ∧ f ≠ 65 ∧ f ≠ 68; omega))⟩
theorem KW.w {S S1 : qSt} (h : KW S S1) {j : Nat} {v : Int32} (hj : j = 3 ∨ j = 28) : KW S (q_wI S1 40 0 j v) := ⟨fun i hi => by rw [q_I_wI, if_neg (by omega)]; exact h.1 i hi, by rw [q_I_wI, if_neg (by omega)]; exact h.2.1, fr.wI h.2.2 (by decide)⟩
theorem KW.s {S S1 : qSt} (h2 : q_I S1 40 0 1 = nI 0) (h3 : ∀ j, (j = 0 ∨ j = 3 ∨ 9 ≤ j) → q_I S1 40 0 j = q_I S 40 0 j) (h4 : fr F40 S S1) : KW S S1 := ⟨fun j hj => h3 j (by omega), h2, h4.mn (fun f i z => by show 40 ≤ f ∧ f < 80 ∧ f ≠ 42 ∧ f ≠ 44 ∧ f ≠ 46 ∧ f ≠ 48 ∧ f ≠ 52 ∧ f ≠ 54 ∧ f ≠ 58 ∧ f ≠ 65 ∧ f ≠ 68; have z : f = 40 := z; omega)⟩
theorem RF_failW {S S1 : qSt} {a : AS} (hR : RF S a) (hk : KW S S1) (hm : ∀ k, k < 600 → aT a k < 256 ∧ q_I S1 41 0 k = nI (aT a k)) {fp : Option Nat} : RF (q_wI S1 40 0 3 (oI fp)) (aTx a (aT a) 0 fp) := by
  have hk3 := hk.w (j := 3) (v := oI fp) (Or.inl rfl)
  exact RF_tx hR (fun j hj => hk3.1 j (by omega)) hk3.2.2 ⟨hk3.2.1, fun k hk' => by rw [q_I_wI, if_neg (by omega)]; exact hm k hk'⟩ (by rw [q_I_wI, if_pos ⟨rfl, rfl, rfl⟩])
theorem r_work (l : Launch) {S : qSt} {a : AS} {B : Nat} (hR : RF S a) (hO : OKA a B) (x : Int32) : RA l k_X11_work [.inr (.inr (40, 0)), .inl x] S (sp_work a x) := by
  have hd6 := hO.2.2.2.2.2.2.1
  have hR0 := hR.th (v := 0)
  have hT := RF_mt hR0 hO
  have htp := hT.2.1
  have h16 := hO.2.2.1
  have gv := hO.v
  unfold sp_work
  by_cases h2 : 0 ≤ x ∧ x ≤ nI (min (aHd a) 150)
  · rw [spI_2 h2]
    obtain ⟨n, hn, rfl⟩ := i_rng (m := (min (aHd a) 150)) (by omega) h2.1 h2.2
    rw [i_cl (by omega)]
    obtain ⟨f, hwp⟩ := wpA_ex (aT a) n (aY a) (aC a)
    refine ⟨40, by decide, ?_⟩
    refine q_meth zoX11_work q_fos (Nat.le_of_ble_eq_true rfl) ?_
    intro AT step
    have k7F : ¬ aW a = 16 → ∀ S1 p q, KW (q_wI S 40 0 0 0) S1 → MD S1 (aT a) n p (some q) → (wpA (aT a) n (aY a) (aC a)).1 = .inr q → AT 7 [some (.inr (.inr (40, 0))), some (.inl (nI n))] [] S1 := by
      intro hw S1 p q hk hm hs
      have hq := hm.1.2.2 q rfl
      refine step 40 [(6, [true, true]), (7, [true, true])] 7 _ _ _ ?_
      simp only [q_vcs, q_vcc, q_vl, q_vu, ↓reduceIte, Nat.reduceEqDiff, Bool.false_eq_true, q_isc, q_mk, q_msk, zbX11_work, q_pad, q_ent, q_get, q_put, q_nl, q_w, List.cons_append, List.nil_append, q_aks, q_als, Nat.reduceAdd, Nat.reduceLeDiff, Nat.zero_le, true_and, and_true, Option.some.injEq, Sum.inl.injEq, Sum.inr.injEq, true_or, or_true, and_self, q_sw]
      rw [hm.2.1.2.2.1]
      refine ⟨fun z => absurd z (fun z => by have : nI q.1 = 0 := z; rw [nI_z (by omega)] at this; omega), fun _ => ?_⟩
      refine ⟨_, _, (by decide : 0 < 40), c_mends l S1 hm, fun v S2 h => ?_⟩
      obtain ⟨g1, g2⟩ := h
      cases g1
      subst g2
      unfold sp_work1
      rw [if_neg hw, hs]
      refine ⟨rfl, ?_, RF_failW hR0 hk hm.2.2 (fp := some q.2), ?_⟩
      · rw [q_I_wI, if_neg (by omega), hk.1 0 (by omega), q_I_wI, if_pos ⟨rfl, rfl, rfl⟩]; rfl
      · exact fth.tr ((fr.wI hk.2.2 (by decide)).mn (fun f i z => ⟨z.1, z.2.1⟩))
    have k7T : ¬ aW a = 16 → ∀ S1 p b z, KW (q_wI S 40 0 0 0) S1 → MD S1 (aT a) n p none → (wpA (aT a) n (aY a) (aC a)).1 = .inl b → q_I S1 40 0 28 = nI z → z ≤ 40 → RI (aY a) (aC a) (fun i q => q_I S1 64 i q) 6 0 z (wpA (aT a) n (aY a) (aC a)).2 → AT 7 [some (.inr (.inr (40, 0))), some (.inl (nI n))] [] S1 := by
      intro hw S1 p b z hk hm hs h28 hz hri
      have hF := RF_failW hR0 hk hm.2.2 (fp := none)
      refine step 40 [(6, [true, true]), (7, [true, true])] 7 _ _ _ ?_
      simp only [q_vcs, q_vcc, q_vl, q_vu, ↓reduceIte, Nat.reduceEqDiff, Bool.false_eq_true, q_isc, q_mk, q_msk, zbX11_work, q_pad, q_ent, q_get, q_put, q_nl, q_w, List.cons_append, List.nil_append, q_aks, q_als, Nat.reduceAdd, Nat.reduceLeDiff, Nat.zero_le, true_and, and_true, Option.some.injEq, Sum.inl.injEq, Sum.inr.injEq, true_or, or_true, and_self, q_sw]
      rw [hm.2.1.2.2.1]
      refine ⟨fun _ => ?_, fun q => absurd rfl q⟩
      have e34 : q_I (q_wI S1 40 0 3 (-1)) 40 0 34 = nI (aW a) := hF.2.2.2.1.1
      rw [e34, i_cl (by omega)]
      refine ⟨i_in (by omega) (by decide), ?_⟩
      refine ⟨_, _, (by decide : 0 < 40), c_mcopies l _ (i := 0) (k := 4 + aW a) (by omega), fun S2 h => ?_⟩
      obtain ⟨c1, c2⟩ := h
      have e40 : q_I S2 40 0 = q_I (q_wI S1 40 0 3 (-1)) 40 0 := (c2 40 0 (fun q => by cases q.1)).1
      rw [e40, e34, nI_1]
      generalize hS3 : q_wI (q_wI (q_wI (q_wI S2 40 0 34 (nI (aW a + 1))) 40 0 38 0) 40 0 39 0) 40 0 35 0 = S3
      have e3 : ∀ j, j ≠ 34 → j ≠ 35 → j ≠ 38 → j ≠ 39 → q_I S3 40 0 j = q_I (q_wI S1 40 0 3 (-1)) 40 0 j := fun j h1 h2 h3 h4 => by rw [← hS3, q_I_wI, if_neg (by omega), q_I_wI, if_neg (by omega), q_I_wI, if_neg (by omega), q_I_wI, if_neg (by omega), e40]
      have e35 : q_I S3 40 0 35 = nI 0 := by rw [← hS3, q_I_wI, if_pos ⟨rfl, rfl, rfl⟩]; rfl
      have e39 : q_I S3 40 0 39 = nI 0 := by rw [← hS3, q_I_wI, if_neg (by omega), q_I_wI, if_pos ⟨rfl, rfl, rfl⟩]; rfl
      have e38 : q_I S3 40 0 38 = nI 0 := by rw [← hS3, q_I_wI, if_neg (by omega), q_I_wI, if_neg (by omega), q_I_wI, if_pos ⟨rfl, rfl, rfl⟩]; rfl
      have e34' : q_I S3 40 0 34 = nI (aW a + 1) := by rw [← hS3, q_I_wI, if_neg (by omega), q_I_wI, if_neg (by omega), q_I_wI, if_neg (by omega), q_I_wI, if_pos ⟨rfl, rfl, rfl⟩]
      have f3 : fr (fun f i => f = 40 ∨ (f = 65 ∧ i = 4 + aW a)) (q_wI S1 40 0 3 (oI none)) S3 := by
        rw [← hS3]
        have c3 : fr (fun f i => f = 40 ∨ (f = 65 ∧ i = 4 + aW a)) (q_wI S1 40 0 3 (oI none)) S2 := c2.mn (fun f i z => Or.inr z)
        exact fr.wI (fr.wI (fr.wI (fr.wI c3 (Or.inl rfl)) (Or.inl rfl)) (Or.inl rfl)) (Or.inl rfl)
      have e28 : q_I S3 40 0 28 = nI z := by rw [e3 28 (by decide) (by decide) (by decide) (by decide), q_I_wI, if_neg (by omega)]; exact h28
      have hM3 : MY S3 (aY a) := hF.1.fr f3 (fun _ => by omega) (fun _ => by omega) (fun _ => by omega) (fun _ => by omega)
      have hL3 : MLW S3 (aC a) := by
        rcases hF.2.1 with ⟨e1, q⟩ | ⟨l0, q1, q2⟩
        · exact Or.inl ⟨e1, by rw [e3 19 (by decide) (by decide) (by decide) (by decide)]; exact q⟩
        · exact Or.inr ⟨l0, by rw [e3 19 (by decide) (by decide) (by decide) (by decide)]; exact q1, fun k hk' => by rw [(f3 54 k (by omega)).1]; exact q2 k hk'⟩
      have hri3 : RI (aY a) (aC a) (fun i q => q_I S3 64 i q) 6 0 z (wpA (aT a) n (aY a) (aC a)).2 := hri.cong (fun i q _ _ => by rw [(f3 64 i (by omega)).1, q_I_wI, if_neg (by omega)])
      have hV3 : RV S3 0 (aV a) := hF.2.2.2.1.2.1.fr f3 (by omega)
      rw [e28]
      refine ⟨_, _, (by decide : 6 + 6 < 40), c_mgoesOn l S3 (o := 6) (j := 0) (j' := z) hO.1 hM3 hO.2.1 hL3 hri3 (by omega) (0, 0, 0, aV a) S3 ⟨⟨Nat.zero_le _, gv.1⟩, hV3, ⟨e38, e39, e35⟩, fun _ _ _ _ => rfl, fr.rf⟩, fun S4 h => ?_⟩
      unfold sp_work1
      rw [if_neg hw, hs]
      generalize (wpA (aT a) n (aY a) (aC a)).2 (0, 0, 0, aV a) = X at h ⊢
      obtain ⟨w1, w2, ⟨w3, w4, w5⟩, w6, w7⟩ := h
      have f4 : fr (fun f i => f = 40 ∨ (f = 65 ∧ (i = 0 ∨ i = 4 + aW a)) ∨ f = 61 ∨ f = 62) (q_wI S1 40 0 3 (oI none)) S4 := (f3.mn (fun f i z => by omega)).tr (w7.mn (fun f i z => by omega))
      have e4 : ∀ j, j ≠ 34 → j ≠ 35 → j ≠ 38 → j ≠ 39 → q_I S4 40 0 j = q_I (q_wI S1 40 0 3 (-1)) 40 0 j := fun j h1 h2 h3 h4 => by rw [w6 j h3 h4 h2, e3 j h1 h2 h3 h4]
      refine ⟨w4, ?_, RF_im2 (a := aTx a (aT a) 0 none) hF (fun j hj => e4 j (by omega) (by omega) (by omega) (by omega)) (f4.mn (fun f i z => by omega)) ⟨?_, ?_, fun j hj => ?_⟩ w5, ?_⟩
      · rw [e4 0 (by decide) (by decide) (by decide) (by decide), q_I_wI, if_neg (by omega), hk.1 0 (by omega), q_I_wI, if_pos ⟨rfl, rfl, rfl⟩]; rfl
      · rw [w6 34 (by decide) (by decide) (by decide)]; exact e34'
      · dsimp only
        rw [if_pos rfl]
        exact w2
      · dsimp only
        rw [if_neg (show ¬ j = aW a + 1 by omega)]
        by_cases ej : j = aW a
        · subst ej
          refine RVf_cg gv.1.1 hF.2.2.2.1.2.1 (fun k hk => ?_)
          rw [(w7 65 (4 + aW a) (by omega)).1, ← hS3, q_I_wI, if_neg (by omega), q_I_wI, if_neg (by omega), q_I_wI, if_neg (by omega), q_I_wI, if_neg (by omega)]
          exact c1 k hk
        · exact (hF.2.2.2.1.2.2 j (by show j < aW a; omega)).fr f4 (by omega)
      · exact fth.tr (((fr.wI hk.2.2 (by decide)).mn (fun f i z => ⟨z.1, z.2.1⟩)).tr (f4.mn (fun f i z => by show 40 ≤ f ∧ f < 80; omega)))
    have k6F : ¬ aW a = 16 → ∀ S1 p q, KW (q_wI S 40 0 0 0) S1 → MD S1 (aT a) n p (some q) → (wpA (aT a) n (aY a) (aC a)).1 = .inr q → AT 6 [some (.inr (.inr (40, 0))), some (.inl (nI n))] [] S1 := by
      intro hw S1 p q hk hm hs
      have kk := k7F hw S1 p q hk hm hs
      have hq := hm.1.2.2 q rfl
      refine step 40 [(6, [true, true]), (7, [true, true])] 6 _ _ _ ?_
      simp only [q_vcs, q_vcc, q_vl, q_vu, ↓reduceIte, Nat.reduceEqDiff, Bool.false_eq_true, q_isc, q_mk, q_msk, zbX11_work, q_pad, q_ent, q_get, q_put, q_nl, q_w, List.cons_append, List.nil_append, q_aks, q_als, Nat.reduceAdd, Nat.reduceLeDiff, Nat.zero_le, true_and, and_true, Option.some.injEq, Sum.inl.injEq, Sum.inr.injEq, true_or, or_true, and_self, q_sw]
      rw [hm.2.1.2.2.1]
      exact ⟨fun _ => kk, fun z => absurd z (fun z => by have : nI q.1 = 0 := z; rw [nI_z (by omega)] at this; omega)⟩
    have k6 : ¬ aW a = 16 → ∀ g b z X0 w S1, wp (aT a) n (aY a) (aC a) g 0 0 b = some w → w.1 = (wpA (aT a) n (aY a) (aC a)).1 → (w.1.isLeft = true → (wpA (aT a) n (aY a) (aC a)).2 = fun s => w.2 (X0 s)) → MD S1 (aT a) n (tx (aT a) n isb b) none → KW (q_wI S 40 0 0 0) S1 → q_I S1 40 0 28 = nI z → q_I S1 40 0 8 = nI 0 → 4 * z ≤ b → RI (aY a) (aC a) (fun i q => q_I S1 64 i q) 6 0 z X0 → AT 6 [some (.inr (.inr (40, 0))), some (.inl (nI n))] [] S1 := by
      intro hw16 g
      induction g with
      | zero => intro b z X0 w S1 hw; cases hw
      | succ g ihg =>
        intro b z X0 w S1 hw hw1 hw2 hM hk h28 h8 hzb hri
        have hgb := tx_ge (aT a) n isb b
        have hn7 := hM.1
        have hsen : sen (aT a) n 0 (tx (aT a) n isb b) = decide (n ≤ tx (aT a) n isb b) := by unfold sen; rw [if_pos rfl]
        by_cases hend : n ≤ tx (aT a) n isb b
        · rw [wp_0e (by rw [hsen]; exact decide_eq_true hend)] at hw
          cases hw
          have kk := k7T hw16 S1 _ (tx (aT a) n isb b) z hk hM hw1.symm h28 (by omega) (by rw [hw2 rfl]; exact hri)
          refine step 40 [(6, [true, true]), (7, [true, true])] 6 _ _ _ ?_
          simp only [q_vcs, q_vcc, q_vl, q_vu, ↓reduceIte, Nat.reduceEqDiff, Bool.false_eq_true, q_isc, q_mk, q_msk, zbX11_work, q_pad, q_ent, q_get, q_put, q_nl, q_w, List.cons_append, List.nil_append, q_aks, q_als, Nat.reduceAdd, Nat.reduceLeDiff, Nat.zero_le, true_and, and_true, Option.some.injEq, Sum.inl.injEq, Sum.inr.injEq, true_or, or_true, and_self, q_sw]
          rw [hM.2.1.2.2.1, hM.2.1.2.1, hM.2.1.1, nI_leI (by omega) (by omega)]
          exact ⟨fun z => absurd rfl z, fun _ => ⟨fun _ => kk, fun z => absurd hend z⟩⟩
        · rw [wp_0s (by rw [hsen]; simp [hend])] at hw
          have key : ∃ v, wp (aT a) n (aY a) (aC a) g 1 0 (tx (aT a) n isb b) = some v ∧ (∀ q, psg (aT a) n 59 v.1 = .inr q → w.1 = .inr q) ∧ (∀ b2, psg (aT a) n 59 v.1 = .inl b2 → ∃ r, wp (aT a) n (aY a) (aC a) g 0 0 b2 = some r ∧ r.1 = w.1 ∧ (r.1.isLeft = true → w.2 = fun s => r.2 (v.2 s))) := by
            rcases andW_cases hw with ⟨b1, X1, e1, h2⟩ | ⟨q, X1, e1, h2⟩
            · refine ⟨_, e1, fun q hq => ?_, fun b2 hb2 => ?_⟩
              · have hq : psg (aT a) n 59 (.inl b1) = .inr q := hq
                rw [hq] at h2
                cases h2
                rfl
              · have hb2 : psg (aT a) n 59 (.inl b1) = .inl b2 := hb2
                rw [hb2] at h2
                rcases andW_cases (show andW (wp (aT a) n (aY a) (aC a) g 0 0 b2) _ = some w from h2) with ⟨b3, X3, e3, h5⟩ | ⟨q, X3, e3, h5⟩
                · cases h5
                  exact ⟨_, e3, rfl, fun _ => rfl⟩
                · exact ⟨_, e3, by rw [h5], fun h => by cases h⟩
            · refine ⟨_, e1, fun q' hq => ?_, fun b2 hb2 => (by cases hb2)⟩
              have hq : (.inr q : PS) = .inr q' := hq
              rw [h2, ← hq]
          obtain ⟨v, v1, v2, v3⟩ := key
          refine step 40 [(6, [true, true]), (7, [true, true])] 6 _ _ _ ?_
          simp only [q_vcs, q_vcc, q_vl, q_vu, ↓reduceIte, Nat.reduceEqDiff, Bool.false_eq_true, q_isc, q_mk, q_msk, zbX11_work, q_pad, q_ent, q_get, q_put, q_nl, q_w, List.cons_append, List.nil_append, q_aks, q_als, Nat.reduceAdd, Nat.reduceLeDiff, Nat.zero_le, true_and, and_true, Option.some.injEq, Sum.inl.injEq, Sum.inr.injEq, true_or, or_true, and_self, q_sw]
          rw [hM.2.1.2.2.1, hM.2.1.2.1, hM.2.1.1, nI_leI (by omega) (by omega)]
          refine ⟨fun z => absurd rfl z, fun _ => ⟨fun z => absurd z hend, fun _ => ?_⟩⟩
          refine ⟨_, _, (by decide : 6 + (6 - 0) < 40), rm_all hO.1 (n := n) (by omega) g g (Nat.le_refl _) 0 (tx (aT a) n isb b) v S1 z v1 (by decide) hM h8 h28 (by omega) (hR0.1.fr hk.2.2 (fun _ => by omega) (fun _ => by omega) (fun _ => by omega) (fun _ => by omega)), fun S8 h8 => ?_⟩
          obtain ⟨r1, r2, r3⟩ := h8
          have hk8 := hk.q r3
          cases hp : psg (aT a) n 59 v.1 with
          | inr q =>
            rw [hp] at r1
            obtain ⟨y, r1⟩ := r1
            refine ⟨_, _, (by decide : 1 < 40), c_mblanks l S8 r1, fun S9 h9 => ?_⟩
            exact k6F hw16 S9 _ q (hk8.q (MwQ.e h9.2)) h9.1 (by rw [← hw1]; exact v2 q hp)
          | inl b2 =>
            rw [hp] at r1
            have r1 : MD S8 (aT a) n b2 none := r1
            obtain ⟨s1, z8, s2, s3, s4, s5, s6⟩ := r2 b2 hp
            obtain ⟨r, w1, w2, w3⟩ := v3 b2 hp
            refine ⟨_, _, (by decide : 1 < 40), c_mblanks l S8 r1, fun S9 h9 => ?_⟩
            have e9 : ∀ i, q_I S9 64 i = q_I S8 64 i := fun i => (h9.2.2 64 i (fun q => by cases q)).1
            refine ihg b2 z8 (fun s => v.2 (X0 s)) r S9 w1 (w2.trans hw1) (fun h => ?_) h9.1 (hk8.q (MwQ.e h9.2)) (by rw [h9.2.1 28 (by omega)]; exact s2) (by rw [h9.2.1 8 (by omega)]; exact s1) s4 ?_
            · rw [hw2 (by rw [← w2]; exact h), w3 h]
            · refine RI.seq (m := z) (hri.cong (fun i q _ hi => by rw [e9, s6 i hi])) (s5.cong (fun i q _ _ => by rw [e9]))
    refine step 40 [(6, [true, true])] 0 _ _ _ ?_
    simp only [q_vcs, q_vcc, q_vl, q_vu, ↓reduceIte, Nat.reduceEqDiff, Bool.false_eq_true, q_isc, q_mk, q_msk, zbX11_work, q_pad, q_ent, q_get, q_put, q_nl, q_w, List.cons_append, List.nil_append, q_aks, q_als, Nat.reduceAdd, Nat.reduceLeDiff, Nat.zero_le, true_and, and_true, Option.some.injEq, Sum.inl.injEq, Sum.inr.injEq, true_or, or_true, and_self, q_sw]
    rw [htp]
    refine q_u1 (by decide) (c_min l _ (nI n) 0 (nI (aHd a))) ?_
    rw [decide_eq_true ⟨h2.1, (nI_leI (by omega) (by omega)).mpr (show n ≤ aHd a by omega)⟩, show (150 : Int32) = nI 150 from rfl, nI_leI (a := n) (b := 150) (by omega) (by decide)]
    refine ⟨fun z => absurd z (by decide), fun _ => ⟨fun _ => ?_, fun z => absurd (by omega) z⟩⟩
    refine q_u1 (by decide) (c_mbN l S (w := 1) (r := 1) (by decide) (by decide)) ?_
    first | refine ⟨fun _ => ?_, fun q => absurd q (by decide)⟩ | refine ⟨fun q => absurd q (by decide), fun _ => ?_⟩
    rw [hR0.2.2.2.1.1, show (16 : Int32) = nI 16 from rfl, nI_eq (by omega) (by decide)]
    refine ⟨fun hw => ?_, fun hw => ?_⟩
    · refine ⟨_, _, (by decide : 2 < 40), c_mstarts l _ hT (show n ≤ aHd a by omega), fun S1 h => ?_⟩
      obtain ⟨g1, ⟨g2, g3, g4⟩, g5, g6⟩ := h
      have kt1 := (KW.s g2 g5 g6).w (j := 28) (v := 0) (Or.inr rfl)
      have ms1 : MS (q_wI S1 40 0 28 0) (aT a) n (.inl (tx (aT a) n isb 0)) := ms_20 (s := .inl (tx (aT a) n isb 0)) g1 (Or.inr (by decide))
      exact k6 hw f 0 0 id (wpA (aT a) n (aY a) (aC a)) _ hwp rfl (fun _ => rfl) ms1 kt1 (by rw [q_I_wI, if_pos ⟨rfl, rfl, rfl⟩]; rfl) (by rw [q_I_wI, if_neg (by omega)]; exact g4) (by decide) (RI.nil _ _)
    · unfold sp_work1
      rw [if_pos hw]
      have f0 : fr F40 (q_wI S 40 0 0 0) (q_wI (q_wI S 40 0 0 0) 40 0 1 0) := fr.wI fr.rf rfl
      have hk : KW (q_wI S 40 0 0 0) (q_wI (q_wI S 40 0 0 0) 40 0 1 0) := KW.s (by rw [q_I_wI, if_pos ⟨rfl, rfl, rfl⟩]; rfl) (fun j hj => by rw [q_I_wI, if_neg (by omega)]) f0
      refine ⟨rfl, ?_, RF_failW hR0 hk (fun k hk' => by rw [q_I_wI, if_neg (by omega)]; exact hT.2.2 k hk') (fp := none), ?_⟩
      · rw [q_I_wI, if_neg (by omega), q_I_wI, if_neg (by omega), q_I_wI, if_pos ⟨rfl, rfl, rfl⟩]; rfl
      · exact fth.tr ((fr.wI hk.2.2 (by decide)).mn (fun f i z => ⟨z.1, z.2.1⟩))
  · rw [spI_1 h2]
    refine RA_i (d := 20) (by decide) hR ?_
    refine q_meth zoX11_work q_fos (Nat.le_of_ble_eq_true rfl) ?_
    intro AT step
    refine step 40 [(4, [true, true])] 0 _ _ _ ?_
    simp only [q_vcs, q_vcc, q_vl, q_vu, ↓reduceIte, Nat.reduceEqDiff, Bool.false_eq_true, q_isc, q_mk, q_msk, zbX11_work, q_pad, q_ent, q_get, q_put, q_nl, q_w, List.cons_append, List.nil_append, q_aks, q_als, Nat.reduceAdd, Nat.reduceLeDiff, Nat.zero_le, true_and, and_true, Option.some.injEq, Sum.inl.injEq, Sum.inr.injEq, true_or, or_true, and_self, q_sw]
    rw [htp]
    refine q_u1 (by decide) (c_min l _ x 0 (nI (aHd a))) ?_
    by_cases k0 : 0 ≤ x ∧ x ≤ nI (aHd a)
    · rw [decide_eq_true k0]
      obtain ⟨n, hn, rfl⟩ := i_rng (m := aHd a) (by omega) k0.1 k0.2
      rw [show (150 : Int32) = nI 150 from rfl, nI_leI (a := n) (b := 150) (by omega) (by decide)]
      have hn150 : ¬ n ≤ 150 := fun z => h2 ⟨k0.1, (nI_leI (by omega) (by omega)).mpr (by omega)⟩
      refine ⟨fun z => absurd z (by decide), fun _ => ⟨fun z => absurd z hn150, fun _ => ?_⟩⟩
      refine q_u1 (by decide) (c_mbY l S (w := 1) (r := 1) (by decide) (by decide)) ?_
      first | refine ⟨fun _ => ?_, fun q => absurd q (by decide)⟩ | refine ⟨fun q => absurd q (by decide), fun _ => ?_⟩
      first | rfl | exact ⟨rfl, rfl⟩ | trivial
    · rw [decide_eq_false k0]
      refine ⟨fun _ => ?_, fun z => absurd rfl z⟩
      refine q_u1 (by decide) (c_mbY l S (w := 1) (r := 1) (by decide) (by decide)) ?_
      first | refine ⟨fun _ => ?_, fun q => absurd q (by decide)⟩ | refine ⟨fun q => absurd q (by decide), fun _ => ?_⟩
      first | rfl | exact ⟨rfl, rfl⟩ | trivial
