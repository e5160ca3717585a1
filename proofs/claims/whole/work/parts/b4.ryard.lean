/-! The reference's commands: yard -/
theorem pnm_v {T : Nat → Nat} {n lo h : Nat} {s : PS} (hl : (pnm T n lo h s).isLeft = true) : s.isLeft = true ∧ lo ≤ pvl T n s ∧ pvl T n s < h := by
  cases s with
  | inr q => cases hl
  | inl a =>
    cases he : nmE T n a lo h none with
    | some q => rw [pnm_no he] at hl; cases hl
    | none =>
      obtain ⟨h1, h2, _⟩ := nmE_none he
      exact ⟨rfl, h1, h2⟩
theorem psg_v {T : Nat → Nat} {n c : Nat} {s : PS} (hl : (psg T n c s).isLeft = true) : s.isLeft = true := by
  cases s with
  | inr q => cases hl
  | inl a => rfl
theorem ycl_ok {T : Nat → Nat} {n k a : Nat} {Y : YD} (hY : y_ok Y) (hl : (ycl T n k a Y).1.isLeft = true) : y_ok (ycl T n k a Y).2 := by
  unfold ycl at hl ⊢
  generalize ykd T (tx T n isb a) (tx T n isl (tx T n isb a)) = kd at hl ⊢
  generalize tx T n isl (tx T n isb a) = c at hl ⊢
  by_cases h0 : kd = 0
  · rw [if_pos h0] at hl; cases hl
  · rw [if_neg h0] at hl ⊢
    by_cases ht : ytm k kd Y = true
    · rw [if_pos ht] at hl; cases hl
    · rw [if_neg ht] at hl ⊢
      have h6 := hY.2.1
      have hlb := psg_v hl
      unfold ytm at ht
      rw [decide_eq_true_eq] at ht
      match kd, h0 with
      | 1, _ =>
        have := pnm_v (show (pnm T n 1 5 (.inl c)).isLeft = true from hlb)
        exact yln_ok hY (by omega) ⟨this.2.1, by have : nmN T n c < 5 := this.2.2; omega⟩
      | 2, _ =>
        have a1 := pnm_v (show (pnm T n 0 10 (pnm T n 0 100 (pnm T n 1 3 (.inl c)))).isLeft = true from hlb)
        have a2 := pnm_v a1.1
        have a3 := pnm_v a2.1
        exact ycr_ok hY (by omega) ⟨a3.2.1, by have : nmN T n c < 3 := a3.2.2; omega⟩ (by omega) (by omega)
      | 3, _ =>
        have a1 := pnm_v (show (pnm T n 0 (Y 1 0) (pnm T n 0 (Y 1 0) (.inl c))).isLeft = true from hlb)
        have a2 := pnm_v a1.1
        exact yky_ok hY a2.2.2 (by omega)
      | m + 4, _ =>
        have a1 := pnm_v (show (pnm T n 0 41 (.inl c)).isLeft = true from hlb)
        exact ycs_ok hY (by have : nmN T n c < 41 := a1.2.2; omega)
theorem KT.c {S S1 S2 : qSt} (h : KT S S1) (hE : McQ S1 S2) : KT S S2 := ⟨fun j hj => by rw [hE.1 j (by omega)]; exact h.1 j hj, by rw [hE.1 1 (by omega)]; exact h.2.1, h.2.2.tr (hE.2.mn (fun f i z => by show 40 ≤ f ∧ f < 80 ∧ f ≠ 42 ∧ f ≠ 44 ∧ f ≠ 46 ∧ f ≠ 48 ∧ f ≠ 52 ∧ f ≠ 54 ∧ f ≠ 58 ∧ f ≠ 65 ∧ f ≠ 68; omega))⟩
theorem KT.fr2 {S S1 S2 : qSt} (h : KT S S1) (h40 : q_I S2 40 0 = q_I S1 40 0) (hf : fr (fun f _ => f = 43 ∨ f = 47) S1 S2) : KT S S2 := ⟨fun j hj => by rw [h40]; exact h.1 j hj, by rw [h40]; exact h.2.1, h.2.2.tr (hf.mn (fun f i z => by show 40 ≤ f ∧ f < 80 ∧ f ≠ 42 ∧ f ≠ 44 ∧ f ≠ 46 ∧ f ≠ 48 ∧ f ≠ 52 ∧ f ≠ 54 ∧ f ≠ 58 ∧ f ≠ 65 ∧ f ≠ 68; omega))⟩
theorem MR_e {S S' : qSt} {Y : YD} (h : MR S Y) (hE : ME S S') : MR S' Y := h.fr hE.2 (fun _ z => by cases z) (fun _ z => by cases z) (fun _ z => by cases z) (fun _ z => by cases z)
theorem r_yard (l : Launch) {S : qSt} {a : AS} {B : Nat} (hR : RF S a) (hO : OKA a B) (hB : aH a 0 = V0) (x : Int32) : RA l k_X11_yard [.inr (.inr (40, 0)), .inl x] S (sp_yard a x) := by
  have hd6 := hO.2.2.2.2.2.2.1
  have hR0 := hR.th (v := 0)
  have hT := RF_mt hR0 hO
  have htp := hT.2.1
  unfold sp_yard
  by_cases h2 : 0 ≤ x ∧ x ≤ nI (aHd a)
  · rw [spI_2 h2]
    obtain ⟨n, hn, rfl⟩ := i_rng (m := aHd a) (by omega) h2.1 h2.2
    rw [i_cl (by omega)]
    refine ⟨40, by decide, ?_⟩
    refine q_meth zoX11_yard q_fos (Nat.le_of_ble_eq_true rfl) ?_
    intro AT step
    have k5F : ∀ S1 p q, KT (q_wI S 40 0 0 0) S1 → MD S1 (aT a) n p (some q) → (yrl (aT a) n 62 0 0 Y0).1 = .inr q → AT 5 [some (.inr (.inr (40, 0))), some (.inl (nI n))] [] S1 := by
      intro S1 p q hk hm hs
      have hq := hm.1.2.2 q rfl
      refine step 40 [(4, [true, true]), (5, [true, true])] 5 _ _ _ ?_
      simp only [q_vcs, q_vcc, q_vl, q_vu, ↓reduceIte, Nat.reduceEqDiff, Bool.false_eq_true, q_isc, q_mk, q_msk, zbX11_yard, q_pad, q_ent, q_get, q_put, q_nl, q_w, List.cons_append, List.nil_append, q_aks, q_als, Nat.reduceAdd, Nat.reduceLeDiff, Nat.zero_le, true_and, and_true, Option.some.injEq, Sum.inl.injEq, Sum.inr.injEq, true_or, or_true, and_self, q_sw]
      rw [hm.2.1.2.2.1]
      refine ⟨fun z => absurd z (fun z => by have : nI q.1 = 0 := z; rw [nI_z (by omega)] at this; omega), fun _ => ?_⟩
      refine ⟨_, _, (by decide : 0 < 40), c_mends l S1 hm, fun v S2 h => ?_⟩
      obtain ⟨g1, g2⟩ := h
      cases g1
      subst g2
      unfold sp_yard1
      rw [hs]
      refine ⟨rfl, ?_, RF_fail hR0 hk hm (fp := some q.2), ?_⟩
      · rw [q_I_wI, if_neg (by omega), hk.1 0 (by omega), q_I_wI, if_pos ⟨rfl, rfl, rfl⟩]; rfl
      · exact fth.tr ((fr.wI hk.2.2 (by decide)).mn (fun f i z => ⟨z.1, z.2.1⟩))
    have k5T : ∀ S1 p b Y1, KT (q_wI S 40 0 0 0) S1 → MD S1 (aT a) n p none → y_ok Y1 → MR S1 Y1 → yrl (aT a) n 62 0 0 Y0 = (.inl b, Y1) → AT 5 [some (.inr (.inr (40, 0))), some (.inl (nI n))] [] S1 := by
      intro S1 p b Y1 hk hm hY1 hMR hs
      refine step 40 [(4, [true, true]), (5, [true, true])] 5 _ _ _ ?_
      simp only [q_vcs, q_vcc, q_vl, q_vu, ↓reduceIte, Nat.reduceEqDiff, Bool.false_eq_true, q_isc, q_mk, q_msk, zbX11_yard, q_pad, q_ent, q_get, q_put, q_nl, q_w, List.cons_append, List.nil_append, q_aks, q_als, Nat.reduceAdd, Nat.reduceLeDiff, Nat.zero_le, true_and, and_true, Option.some.injEq, Sum.inl.injEq, Sum.inr.injEq, true_or, or_true, and_self, q_sw]
      rw [hm.2.1.2.2.1]
      refine ⟨fun _ => ?_, fun z => absurd rfl z⟩
      have hMR3 : MR (q_wI S1 40 0 3 (-1)) Y1 := hMR.fr (F := fun f _ => f = 40) (fr.wI fr.rf rfl) (fun _ => by decide) (fun _ => by decide) (fun _ => by decide) (fun _ => by decide)
      refine ⟨_, _, (by decide : 1 < 40), c_mbeginsAnew l _ hY1 hMR3, fun S2 h => ?_⟩
      obtain ⟨c1, c2, ⟨c3, c4, c5, c6, c7⟩, c8, c9⟩ := h
      have hk3 := hk.w (j := 3) (v := -1) (Or.inl rfl)
      unfold sp_yard1
      rw [hs]
      refine ⟨i_in (k := 1) (by decide) (by decide), c1.2.1, ?_, ⟨c1, Or.inl ⟨rfl, c3⟩, ⟨0, fun _ => 0, fun _ => 0, ⟨c4, by decide, fun z hz => absurd hz (Nat.not_lt_zero _)⟩, ⟨⟨fun z hz => absurd hz (Nat.not_lt_zero _), fun i hi hh => ?_⟩, ?_⟩⟩, ⟨c5, ?_, fun j hj => absurd hj (Nat.not_lt_zero _)⟩, ⟨c7, fun i hi => absurd hi (Nat.not_lt_zero _)⟩, ⟨?_, fun k hk' => ?_⟩, ?_, ⟨c6, ?_⟩, ?_⟩, ?_⟩
      · rw [c8 0 (by decide) (by decide) (by decide) (by decide) (by decide), hk3.1 0 (by omega), q_I_wI, if_pos ⟨rfl, rfl, rfl⟩]; rfl
      · exact absurd hh (by show ¬ (Nat.testBit 0 i = true); simp)
      · show 0 = pcn 0
        decide
      · show RV S2 0 (aH a 0)
        rw [hB]
        exact c2
      · rw [c8 1 (by decide) (by decide) (by decide) (by decide) (by decide)]; exact hk3.2.1
      · rw [(c9 41 0 (by decide)).1, q_I_wI, if_neg (by omega)]; exact hm.2.2 k hk'
      · rw [c8 3 (by decide) (by decide) (by decide) (by decide) (by decide), q_I_wI, if_pos ⟨rfl, rfl, rfl⟩]; rfl
      · rw [(c9 42 0 (by decide)).1, (hk3.2.2 42 0 (by decide)).1]; exact hR0.2.2.2.2.2.2.2.1.2
      · rw [c8 47 (by decide) (by decide) (by decide) (by decide) (by decide), hk3.1 47 (by omega)]; exact hR0.2.2.2.2.2.2.2.2
      · exact fth.tr ((hk3.2.2.mn (fun f i z => ⟨z.1, z.2.1⟩)).tr (c9.mn (fun f i z => by show 40 ≤ f ∧ f < 80; omega)))
    have k4F : ∀ S1 p q, KT (q_wI S 40 0 0 0) S1 → MD S1 (aT a) n p (some q) → (yrl (aT a) n 62 0 0 Y0).1 = .inr q → AT 4 [some (.inr (.inr (40, 0))), some (.inl (nI n))] [] S1 := by
      intro S1 p q hk hm hs
      have kk := k5F S1 p q hk hm hs
      have hq := hm.1.2.2 q rfl
      refine step 40 [(4, [true, true]), (5, [true, true])] 4 _ _ _ ?_
      simp only [q_vcs, q_vcc, q_vl, q_vu, ↓reduceIte, Nat.reduceEqDiff, Bool.false_eq_true, q_isc, q_mk, q_msk, zbX11_yard, q_pad, q_ent, q_get, q_put, q_nl, q_w, List.cons_append, List.nil_append, q_aks, q_als, Nat.reduceAdd, Nat.reduceLeDiff, Nat.zero_le, true_and, and_true, Option.some.injEq, Sum.inl.injEq, Sum.inr.injEq, true_or, or_true, and_self, q_sw]
      rw [hm.2.1.2.2.1]
      exact ⟨fun _ => kk, fun z => absurd z (fun z => by have : nI q.1 = 0 := z; rw [nI_z (by omega)] at this; omega)⟩
    have k4 : ∀ f k b Y1 S1, k + f = 62 → k ≤ 60 → y_ok Y1 → MD S1 (aT a) n (tx (aT a) n isb b) none → MR S1 Y1 → q_I S1 40 0 7 = nI k → KT (q_wI S 40 0 0 0) S1 → yrl (aT a) n f k b Y1 = yrl (aT a) n 62 0 0 Y0 → AT 4 [some (.inr (.inr (40, 0))), some (.inl (nI n))] [] S1 := by
      intro f
      induction f with
      | zero => intro k b Y1 S1 h1 h2; omega
      | succ f ih =>
        intro k b Y1 S1 h1 h2 hY1 hm hMR h7 hk he
        have hm1 := hm.1
        by_cases hend : n ≤ tx (aT a) n isb b
        · rw [yrl, if_pos hend] at he
          have kk := k5T S1 _ _ Y1 hk hm hY1 hMR he.symm
          refine step 40 [(4, [true, true]), (5, [true, true])] 4 _ _ _ ?_
          simp only [q_vcs, q_vcc, q_vl, q_vu, ↓reduceIte, Nat.reduceEqDiff, Bool.false_eq_true, q_isc, q_mk, q_msk, zbX11_yard, q_pad, q_ent, q_get, q_put, q_nl, q_w, List.cons_append, List.nil_append, q_aks, q_als, Nat.reduceAdd, Nat.reduceLeDiff, Nat.zero_le, true_and, and_true, Option.some.injEq, Sum.inl.injEq, Sum.inr.injEq, true_or, or_true, and_self, q_sw]
          rw [hm.2.1.2.2.1, hm.2.1.2.1, hm.2.1.1, nI_leI (by omega) (by omega)]
          exact ⟨fun z => absurd rfl z, fun _ => ⟨fun _ => kk, fun z => absurd hend z⟩⟩
        · rw [yrl, if_neg hend] at he
          refine step 40 [(4, [true, true]), (5, [true, true])] 4 _ _ _ ?_
          simp only [q_vcs, q_vcc, q_vl, q_vu, ↓reduceIte, Nat.reduceEqDiff, Bool.false_eq_true, q_isc, q_mk, q_msk, zbX11_yard, q_pad, q_ent, q_get, q_put, q_nl, q_w, List.cons_append, List.nil_append, q_aks, q_als, Nat.reduceAdd, Nat.reduceLeDiff, Nat.zero_le, true_and, and_true, Option.some.injEq, Sum.inl.injEq, Sum.inr.injEq, true_or, or_true, and_self, q_sw]
          rw [hm.2.1.2.2.1, hm.2.1.2.1, hm.2.1.1, nI_leI (by omega) (by omega)]
          refine ⟨fun z => absurd rfl z, fun _ => ⟨fun z => absurd z hend, fun _ => ?_⟩⟩
          refine ⟨_, _, (by decide : 5 < 40), c_mclause l S1 hY1 hm hMR h2 h7, fun S2 h => ?_⟩
          obtain ⟨g1, g2, g3⟩ := h
          have hk2 := hk.c g3
          have hyo := ycl_ok (T := aT a) (n := n) (k := k) (a := tx (aT a) n isb b) hY1
          have h60 := ycl_60 (T := aT a) (n := n) (k := k) (a := tx (aT a) n isb b) (Y := Y1)
          cases hc : ycl (aT a) n k (tx (aT a) n isb b) Y1 with
          | mk s Y3 =>
            rw [hc] at he g1 g2 hyo h60
            cases s with
            | inl b' =>
              dsimp only at he g1 g2 hyo h60
              have g1 : MD S2 (aT a) n b' none := g1
              obtain ⟨g21, g22⟩ := g2 rfl
              refine ⟨_, _, (by decide : 1 < 40), c_mblanks l S2 g1, fun S3 h => ?_⟩
              exact ih (k + 1) b' Y3 S3 (by omega) (by
                by_cases q : k = 60
                · obtain ⟨q', hq'⟩ := h60 (by omega); cases hq'
                · omega) (hyo rfl) h.1 (MR_e g21 h.2) (by rw [h.2.1 7 (by omega)]; exact g22) (hk2.e h.2) he
            | inr q =>
              dsimp only at he g1
              obtain ⟨p, g1⟩ := g1
              refine ⟨_, _, (by decide : 1 < 40), c_mblanks l S2 g1, fun S3 h => ?_⟩
              exact k4F S3 _ q (hk2.e h.2) h.1 (by rw [← he])
    refine step 40 [(4, [true, true])] 0 _ _ _ ?_
    simp only [q_vcs, q_vcc, q_vl, q_vu, ↓reduceIte, Nat.reduceEqDiff, Bool.false_eq_true, q_isc, q_mk, q_msk, zbX11_yard, q_pad, q_ent, q_get, q_put, q_nl, q_w, List.cons_append, List.nil_append, q_aks, q_als, Nat.reduceAdd, Nat.reduceLeDiff, Nat.zero_le, true_and, and_true, Option.some.injEq, Sum.inl.injEq, Sum.inr.injEq, true_or, or_true, and_self, q_sw]
    rw [htp]
    refine q_u1 (by decide) (c_min l _ (nI n) 0 (nI (aHd a))) ?_
    rw [decide_eq_true h2]
    first | refine ⟨fun _ => ?_, fun q => absurd q (by decide)⟩ | refine ⟨fun q => absurd q (by decide), fun _ => ?_⟩
    refine q_u1 (by decide) (c_mbN l S (w := 1) (r := 1) (by decide) (by decide)) ?_
    first | refine ⟨fun _ => ?_, fun q => absurd q (by decide)⟩ | refine ⟨fun q => absurd q (by decide), fun _ => ?_⟩
    refine ⟨_, _, (by decide : 2 < 40), c_mstarts l _ hT hn, fun S1 h => ?_⟩
    obtain ⟨g1, ⟨g2, g3, g4⟩, g5, g6⟩ := h
    refine ⟨_, _, (by decide : 0 < 40), c_mtellsNothing l S1, fun S2 h => ?_⟩
    obtain ⟨c1, c2⟩ := h
    have e40 := (c2 40 0 (by decide)).1
    have m2 : MS S2 (aT a) n (.inl (tx (aT a) n isb 0)) := ms_w (s := .inl (tx (aT a) n isb 0)) g1 (fun j _ => by rw [e40]) (c2 41 0 (by decide)).1
    exact k4 62 0 0 Y0 S2 rfl (by decide) Y0_ok m2 c1 (by rw [e40]; exact g3) ((KT.s g2 g5 g6).fr2 e40 c2) rfl
  · rw [spI_1 h2]
    refine RA_i (d := 20) (by decide) hR ?_
    refine q_meth zoX11_yard q_fos (Nat.le_of_ble_eq_true rfl) ?_
    intro AT step
    refine step 40 [(4, [true, true])] 0 _ _ _ ?_
    simp only [q_vcs, q_vcc, q_vl, q_vu, ↓reduceIte, Nat.reduceEqDiff, Bool.false_eq_true, q_isc, q_mk, q_msk, zbX11_yard, q_pad, q_ent, q_get, q_put, q_nl, q_w, List.cons_append, List.nil_append, q_aks, q_als, Nat.reduceAdd, Nat.reduceLeDiff, Nat.zero_le, true_and, and_true, Option.some.injEq, Sum.inl.injEq, Sum.inr.injEq, true_or, or_true, and_self, q_sw]
    rw [htp]
    refine q_u1 (by decide) (c_min l _ x 0 (nI (aHd a))) ?_
    rw [decide_eq_false h2]
    first | refine ⟨fun _ => ?_, fun q => absurd q (by decide)⟩ | refine ⟨fun q => absurd q (by decide), fun _ => ?_⟩
    refine q_u1 (by decide) (c_mbY l S (w := 1) (r := 1) (by decide) (by decide)) ?_
    first | refine ⟨fun _ => ?_, fun q => absurd q (by decide)⟩ | refine ⟨fun q => absurd q (by decide), fun _ => ?_⟩
    first | rfl | exact ⟨rfl, rfl⟩ | trivial
