/-! The reference's commands: law -/
def KT (S S1 : qSt) : Prop := (∀ j, j = 0 ∨ (9 ≤ j ∧ j ≠ 20) → q_I S1 40 0 j = q_I S 40 0 j) ∧ q_I S1 40 0 1 = nI 0 ∧ fr Ftx S S1
theorem KT.e {S S1 S2 : qSt} (h : KT S S1) (hE : ME S1 S2) : KT S S2 := ⟨fun j hj => by rw [hE.1 j (by omega)]; exact h.1 j hj, by rw [hE.1 1 (by omega)]; exact h.2.1, h.2.2.tr (hE.2.mn (fun f i z => by show 40 ≤ f ∧ f < 80 ∧ f ≠ 42 ∧ f ≠ 44 ∧ f ≠ 46 ∧ f ≠ 48 ∧ f ≠ 52 ∧ f ≠ 54 ∧ f ≠ 58 ∧ f ≠ 65 ∧ f ≠ 68; have z : f = 40 := z; omega))⟩
theorem KT.l {S S1 S2 : qSt} (h : KT S S1) (hE : MlQ S1 S2) : KT S S2 := ⟨fun j hj => by rw [hE.1 j (by omega) (by omega) (by omega)]; exact h.1 j hj, by rw [hE.1 1 (by omega) (by omega) (by omega)]; exact h.2.1, h.2.2.tr (hE.2.mn (fun f i z => by show 40 ≤ f ∧ f < 80 ∧ f ≠ 42 ∧ f ≠ 44 ∧ f ≠ 46 ∧ f ≠ 48 ∧ f ≠ 52 ∧ f ≠ 54 ∧ f ≠ 58 ∧ f ≠ 65 ∧ f ≠ 68; omega))⟩
theorem KT.w {S S1 : qSt} (h : KT S S1) {j : Nat} {v : Int32} (hj : j = 3 ∨ j = 20) : KT S (q_wI S1 40 0 j v) := ⟨fun i hi => by rw [q_I_wI, if_neg (by omega)]; exact h.1 i hi, by rw [q_I_wI, if_neg (by omega)]; exact h.2.1, fr.wI h.2.2 (by decide)⟩
theorem KT.s {S S1 : qSt} (h2 : q_I S1 40 0 1 = nI 0) (h3 : ∀ j, (j = 0 ∨ j = 3 ∨ 9 ≤ j) → q_I S1 40 0 j = q_I S 40 0 j) (h4 : fr F40 S S1) : KT S S1 := ⟨fun j hj => h3 j (by omega), h2, h4.mn (fun f i z => by show 40 ≤ f ∧ f < 80 ∧ f ≠ 42 ∧ f ≠ 44 ∧ f ≠ 46 ∧ f ≠ 48 ∧ f ≠ 52 ∧ f ≠ 54 ∧ f ≠ 58 ∧ f ≠ 65 ∧ f ≠ 68; have z : f = 40 := z; omega)⟩
theorem RF_fail {S S1 : qSt} {a : AS} (hR : RF S a) (hk : KT S S1) {n p : Nat} {e : Option (Nat × Nat)} (hm : MD S1 (aT a) n p e) {fp : Option Nat} : RF (q_wI S1 40 0 3 (oI fp)) (aTx a (aT a) 0 fp) := by
  have hk3 := hk.w (j := 3) (v := oI fp) (Or.inl rfl)
  exact RF_tx hR (fun j hj => hk3.1 j (by omega)) hk3.2.2 ⟨hk3.2.1, fun k hk' => by rw [q_I_wI, if_neg (by omega)]; exact hm.2.2 k hk'⟩ (by rw [q_I_wI, if_pos ⟨rfl, rfl, rfl⟩])
theorem RF_mt {S : qSt} {a : AS} {B : Nat} (hR : RF S a) (hO : OKA a B) : MT S (aT a) (aHd a) := ⟨hO.2.2.2.2.2.2.1, hR.2.2.2.2.2.1.1, hR.2.2.2.2.2.1.2⟩
theorem ms_20 {S : qSt} {T : Nat → Nat} {n : Nat} {s : PS} (h : MS S T n s) {j : Nat} {v : Int32} (hj : j = 3 ∨ 7 ≤ j) : MS (q_wI S 40 0 j v) T n s := ms_w h (fun k hk => by rw [q_I_wI, if_neg (by omega)]) (by first | rfl | (intro k; rfl) | (funext k; rw [q_I_wI, if_neg (by omega)]))
theorem lwf_pos {c : List Tok} (h : lwf c) : 0 < c.length := by
  cases c with
  | nil => have := h.2.1; cases this
  | cons t u => simp
theorem r_law (l : Launch) {S : qSt} {a : AS} {B : Nat} (hR : RF S a) (hO : OKA a B) (x : Int32) : RA l k_X11_law [.inr (.inr (40, 0)), .inl x] S (sp_law a x) := by
  have hd6 := hO.2.2.2.2.2.2.1
  have hR0 := hR.th (v := 0)
  have hT := RF_mt hR0 hO
  have htp := hT.2.1
  unfold sp_law
  by_cases h2 : 0 ≤ x ∧ x ≤ nI (min (aHd a) 150)
  · rw [spI_2 h2]
    obtain ⟨n, hn, rfl⟩ := i_rng (m := (min (aHd a) 150)) (by omega) h2.1 h2.2
    rw [i_cl (by omega)]
    obtain ⟨f, hlp⟩ := lpA_ex (aT a) n
    refine ⟨40, by decide, ?_⟩
    refine q_meth zoX11_law q_fos (Nat.le_of_ble_eq_true rfl) ?_
    intro AT step
    have k5F : ∀ S1 p q, KT (q_wI S 40 0 0 0) S1 → MD S1 (aT a) n p (some q) → lend (aT a) n (lpA (aT a) n).1 = .inr q → AT 5 [some (.inr (.inr (40, 0))), some (.inl (nI n))] [] S1 := by
      intro S1 p q hk hm hs
      have hq := hm.1.2.2 q rfl
      refine step 40 [(5, [true, true])] 5 _ _ _ ?_
      simp only [q_vcs, q_vcc, q_vl, q_vu, ↓reduceIte, Nat.reduceEqDiff, Bool.false_eq_true, q_isc, q_mk, q_msk, zbX11_law, q_pad, q_ent, q_get, q_put, q_nl, q_w, List.cons_append, List.nil_append, q_aks, q_als, Nat.reduceAdd, Nat.reduceLeDiff, Nat.zero_le, true_and, and_true, Option.some.injEq, Sum.inl.injEq, Sum.inr.injEq, true_or, or_true, and_self, q_sw]
      rw [hm.2.1.2.2.1]
      refine ⟨fun z => absurd z (fun z => by have : nI q.1 = 0 := z; rw [nI_z (by omega)] at this; omega), fun _ => ?_⟩
      refine ⟨_, _, (by decide : 0 < 40), c_mends l S1 hm, fun v S2 h => ?_⟩
      obtain ⟨g1, g2⟩ := h
      cases g1
      subst g2
      unfold sp_law1
      rw [hs]
      refine ⟨rfl, ?_, RF_fail hR0 hk hm (fp := some q.2), ?_⟩
      · rw [q_I_wI, if_neg (by omega), hk.1 0 (by omega), q_I_wI, if_pos ⟨rfl, rfl, rfl⟩]; rfl
      · exact fth.tr ((fr.wI hk.2.2 (by decide)).mn (fun f i z => ⟨z.1, z.2.1⟩))
    have k5T : ∀ S1 p b, KT (q_wI S 40 0 0 0) S1 → MD S1 (aT a) n p none → lend (aT a) n (lpA (aT a) n).1 = .inl b → LmP S1 (.inl p) (lpA (aT a) n).2 → lwf (lpA (aT a) n).2 → AT 5 [some (.inr (.inr (40, 0))), some (.inl (nI n))] [] S1 := by
      intro S1 p b hk hm hs hL hw
      obtain ⟨g1, g2, g3⟩ := hL p rfl
      have hlen := hw.2.2
      have hpos := lwf_pos hw
      refine step 40 [(5, [true, true])] 5 _ _ _ ?_
      simp only [q_vcs, q_vcc, q_vl, q_vu, ↓reduceIte, Nat.reduceEqDiff, Bool.false_eq_true, q_isc, q_mk, q_msk, zbX11_law, q_pad, q_ent, q_get, q_put, q_nl, q_w, List.cons_append, List.nil_append, q_aks, q_als, Nat.reduceAdd, Nat.reduceLeDiff, Nat.zero_le, true_and, and_true, Option.some.injEq, Sum.inl.injEq, Sum.inr.injEq, true_or, or_true, and_self, q_sw]
      rw [hm.2.1.2.2.1]
      refine ⟨fun _ => ?_, fun z => absurd rfl z⟩
      have e20 : q_I (q_wI S1 40 0 3 (-1)) 40 0 20 = nI (lpA (aT a) n).2.length := by rw [q_I_wI, if_neg (by omega)]; exact g1
      rw [e20, q_I_wI, if_pos ⟨rfl, rfl, rfl⟩]
      refine ⟨_, _, (by decide : 0 < 40), c_mlays55 l _ (m := (lpA (aT a) n).2.length) (by omega), fun S2 h => ?_⟩
      obtain ⟨c1, c2⟩ := h
      unfold sp_law1
      rw [hs]
      have hF := RF_fail hR0 hk hm (fp := none)
      obtain ⟨f1, f2, f3, f4, f5, f6, f7, f8, f9⟩ := hF
      have e40 : ∀ j, j ≠ 19 → q_I S2 40 0 j = q_I (q_wI S1 40 0 3 (-1)) 40 0 j := fun j hj => by rw [(c2 40 0 (by decide)).1, q_I_wI, if_neg (by omega)]
      have ff : fr (fun f i => (f = 40 ∧ i = 0) ∨ f = 54) (q_wI S1 40 0 3 (oI none)) S2 := (fr.wI (F := fun f i => (f = 40 ∧ i = 0) ∨ f = 54) fr.rf (Or.inl ⟨rfl, rfl⟩)).tr (c2.mn (fun f i z => Or.inr z))
      refine ⟨rfl, ?_, ⟨f1.fr ff (fun _ => by omega) (fun _ => by omega) (fun _ => by omega) (fun _ => by omega), Or.inr ⟨hpos, ?_, fun k hk' => ?_⟩, ?_, ⟨?_, f4.2.1.fr ff (by omega), fun j hj => (f4.2.2 j hj).fr ff (by omega)⟩, ⟨?_, fun i hi => ?_⟩, ⟨?_, ?_⟩, ?_, ⟨?_, ?_⟩, ?_⟩, ?_⟩
      · rw [e40 0 (by decide), q_I_wI, if_neg (by omega), hk.1 0 (by omega), q_I_wI, if_pos ⟨rfl, rfl, rfl⟩]; rfl
      · rw [(c2 40 0 (by decide)).1, q_I_wI, if_pos ⟨rfl, rfl, rfl⟩]; rfl
      · have := g3 k hk'
        rw [c1 k hk' 0 (by decide), c1 k hk' 1 (by decide), q_I_wI, if_neg (by omega), q_I_wI, if_neg (by omega), q_I_wI, if_neg (by omega), q_I_wI, if_neg (by omega)]
        exact this
      · obtain ⟨m, w, o, ⟨q1, q2, q3⟩, k2⟩ := f3
        exact ⟨m, w, o, ⟨by rw [e40 33 (by decide)]; exact q1, q2, fun z hz => by rw [(ff 58 z (by omega)).1]; exact q3 z hz⟩, k2⟩
      · rw [e40 34 (by decide)]; exact f4.1
      · rw [e40 36 (by decide)]; exact f5.1
      · unfold MI
        rw [(ff 68 i (by omega)).1]
        exact f5.2 i hi
      · rw [e40 1 (by decide)]; exact f6.1
      · rw [(ff 41 0 (by omega)).1]; exact f6.2
      · rw [e40 3 (by decide)]; exact f7
      · rw [e40 35 (by decide)]; exact f8.1
      · rw [(ff 42 0 (by omega)).1]; exact f8.2
      · rw [e40 47 (by decide)]; exact f9
      · exact fth.tr (((fr.wI hk.2.2 (by decide)).mn (fun f i z => ⟨z.1, z.2.1⟩)).tr (ff.mn (fun f i z => by show 40 ≤ f ∧ f < 80; omega)))
    refine step 40 [(5, [true, true])] 0 _ _ _ ?_
    simp only [q_vcs, q_vcc, q_vl, q_vu, ↓reduceIte, Nat.reduceEqDiff, Bool.false_eq_true, q_isc, q_mk, q_msk, zbX11_law, q_pad, q_ent, q_get, q_put, q_nl, q_w, List.cons_append, List.nil_append, q_aks, q_als, Nat.reduceAdd, Nat.reduceLeDiff, Nat.zero_le, true_and, and_true, Option.some.injEq, Sum.inl.injEq, Sum.inr.injEq, true_or, or_true, and_self, q_sw]
    rw [htp]
    refine q_u1 (by decide) (c_min l _ (nI n) 0 (nI (aHd a))) ?_
    rw [decide_eq_true ⟨h2.1, (nI_leI (by omega) (by omega)).mpr (show n ≤ aHd a by omega)⟩, show (150 : Int32) = nI 150 from rfl, nI_leI (a := n) (b := 150) (by omega) (by decide)]
    refine ⟨fun z => absurd z (by decide), fun _ => ⟨fun _ => ?_, fun z => absurd (by omega) z⟩⟩
    refine q_u1 (by decide) (c_mbN l S (w := 1) (r := 1) (by decide) (by decide)) ?_
    first | refine ⟨fun _ => ?_, fun q => absurd q (by decide)⟩ | refine ⟨fun q => absurd q (by decide), fun _ => ?_⟩
    refine ⟨_, _, (by decide : 2 < 40), c_mstarts l _ hT (show n ≤ aHd a by omega), fun S1 h => ?_⟩
    obtain ⟨g1, ⟨g2, g3, g4⟩, g5, g6⟩ := h
    have kt1 := (KT.s g2 g5 g6).w (j := 20) (v := 0) (Or.inr rfl)
    have ms1 : MS (q_wI S1 40 0 20 0) (aT a) n (.inl (tx (aT a) n isb 0)) := ms_20 (s := .inl (tx (aT a) n isb 0)) g1 (Or.inr (by decide))
    refine ⟨_, _, (by decide : E0 0 < 40), (lm_all (l := l) (T := aT a) (n := n) (by omega) f f (Nat.le_refl _)).1 0 (.inl (tx (aT a) n isb 0)) [] (lpA (aT a) n) _ ((lp_tx (aT a) n f 0 0 0 [] (Or.inl rfl)).trans hlp) (by decide) ms1 (fun b hb => ⟨by rw [q_I_wI, if_pos ⟨rfl, rfl, rfl⟩]; rfl, Nat.zero_le _, fun k hk => absurd hk (Nat.not_lt_zero _)⟩) (fun _ => by rw [q_I_wI, if_neg (by omega)]; exact g4), fun S2 h => ?_⟩
    obtain ⟨m1, m2, m3, m4⟩ := h
    have kt2 := kt1.l m4
    have hlp2 := hlp
    cases hx : (lpA (aT a) n).1 with
    | inr q =>
      rw [hx] at m1
      obtain ⟨p, m1⟩ := m1
      refine ⟨_, _, (by decide : 1 < 40), c_mblanks l S2 m1, fun S3 h => ?_⟩
      obtain ⟨b1, b2⟩ := h
      have kk := k5F S3 _ q (kt2.e b2) b1 (by rw [hx]; rfl)
      have hq := b1.1.2.2 q rfl
      rw [b1.2.1.2.2.1]
      exact ⟨fun _ => kk, fun z => absurd z (fun z => by have : nI q.1 = 0 := z; rw [nI_z (by omega)] at this; omega)⟩
    | inl b =>
      rw [hx] at m1 m2
      have hw : lwf (lpA (aT a) n).2 := lp_lwf (T := aT a) (n := n) (f := f) (b := b) (by omega) (by rw [hlp, ← hx])
      have m1 : MD S2 (aT a) n b none := m1
      refine ⟨_, _, (by decide : 1 < 40), c_mblanks l S2 m1, fun S3 h => ?_⟩
      obtain ⟨b1, b2⟩ := h
      have kt3 := kt2.e b2
      have hb1 := b1.1
      rw [b1.2.1.2.2.1, b1.2.1.2.1, b1.2.1.1]
      refine ⟨fun z => absurd rfl z, fun _ => ?_⟩
      rw [nI_leI (by omega) (by omega)]
      by_cases he : n ≤ tx (aT a) n isb b
      · refine ⟨fun _ => ?_, fun z => absurd he z⟩
        refine k5T S3 _ (tx (aT a) n isb b) kt3 b1 (by rw [hx]; show (if _ then _ else _) = _; rw [if_pos he]) ?_ hw
        have hl3 := lmp_e m2 b2
        obtain ⟨i1, i2, i3⟩ := hl3 b rfl
        exact fun b' hb' => by cases hb'; exact ⟨i1, Nat.le_trans i2 (tx_ge _ _ _ _), i3⟩
      · refine ⟨fun z => absurd z he, fun _ => ?_⟩
        refine ⟨_, _, (by decide : 0 < 40), c_mwrong l S3 b1 (k := 1) (p := tx (aT a) n isb b) (by decide) (by omega), fun S4 h => ?_⟩
        exact k5F S4 _ (1, tx (aT a) n isb b) (kt3.e h.2) h.1 (by rw [hx]; show (if _ then _ else _) = _; rw [if_neg he])
  · rw [spI_1 h2]
    refine RA_i (d := 20) (by decide) hR ?_
    refine q_meth zoX11_law q_fos (Nat.le_of_ble_eq_true rfl) ?_
    intro AT step
    refine step 40 [(4, [true, true])] 0 _ _ _ ?_
    simp only [q_vcs, q_vcc, q_vl, q_vu, ↓reduceIte, Nat.reduceEqDiff, Bool.false_eq_true, q_isc, q_mk, q_msk, zbX11_law, q_pad, q_ent, q_get, q_put, q_nl, q_w, List.cons_append, List.nil_append, q_aks, q_als, Nat.reduceAdd, Nat.reduceLeDiff, Nat.zero_le, true_and, and_true, Option.some.injEq, Sum.inl.injEq, Sum.inr.injEq, true_or, or_true, and_self, q_sw]
    rw [htp]
    refine q_u1 (by decide) (c_min l _ x 0 (nI (aHd a))) ?_
    by_cases k0 : 0 ≤ x ∧ x ≤ nI (aHd a)
    · rw [decide_eq_true k0]
      obtain ⟨n, hn, rfl⟩ := i_rng (m := aHd a) (by omega) k0.1 k0.2
      rw [show (150 : Int32) = nI 150 from rfl, nI_leI (a := n) (b := 150) (by omega) (by decide)]
      have hn150 : ¬ n ≤ 150 := fun z => h2 ⟨k0.1, (nI_leI (by omega) (by omega)).mpr (by omega)⟩
      refine ⟨fun z => absurd z (by decide), fun _ => ⟨fun z => absurd z hn150, fun _ => ?_⟩⟩
      refine q_u1 (by decide) (c_mbY l S (w := 1) (r := 1) (by decide) (by decide)) ?_
      first | refine ⟨fun _ => ?_, fun q => absurd q (by decide)⟩ | refine ⟨fun q => absurd q (by decide), fun _ => ?_⟩
      first | rfl | exact ⟨rfl, rfl⟩ | trivial
    · rw [decide_eq_false k0]
      refine ⟨fun _ => ?_, fun z => absurd rfl z⟩
      refine q_u1 (by decide) (c_mbY l S (w := 1) (r := 1) (by decide) (by decide)) ?_
      first | refine ⟨fun _ => ?_, fun q => absurd q (by decide)⟩ | refine ⟨fun q => absurd q (by decide), fun _ => ?_⟩
      first | rfl | exact ⟨rfl, rfl⟩ | trivial
