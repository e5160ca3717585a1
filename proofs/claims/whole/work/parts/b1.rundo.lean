/-! The reference's commands: undo, image, restore -/
theorem RVf_cg {f g : Nat → Int32} {V : PV} (hV : st_ok V.1) (h : RVf f V) (e : ∀ k, k < 29 → g k = f k) : RVf g V := by
  refine ⟨fun l hl => ⟨?_, fun k hk => ?_⟩, fun c hc => ?_, ?_, ?_⟩
  · rw [e l (by omega)]; exact (h.1 l hl).1
  · have := (st_row hV hl).1
    rw [e _ (by omega)]
    exact (h.1 l hl).2 k hk
  · rw [e _ (by omega)]; exact h.2.1 c hc
  · rw [e 27 (by decide)]; exact h.2.2.1
  · rw [e 28 (by decide)]; exact h.2.2.2
theorem RF_im {S S' : qSt} {a : AS} (h : RF S a) (e : ∀ j, j ≠ 34 → j ≠ 35 → j ≠ 36 → j ≠ 37 → q_I S' 40 0 j = q_I S 40 0 j) (hf : fr (fun f i => f = 40 ∨ (f = 65 ∧ (i = 0 ∨ 4 ≤ i)) ∨ f = 68) S S') {w : Nat} {hh : Nat → PV} {ni : Nat} {im : Nat → Nat × (Nat → PV)} {rs : Nat} (h4' : RF4 S' w hh) (h5' : RF5 S' ni im) (h8' : q_I S' 40 0 35 = nI rs) : RF S' (mkA (aY a) (aC a) (aLn a) (aOi a) w hh ni im (aT a) (aHd a) (aFp a) rs (aRn a) (aRi a)) := by
  obtain ⟨h1, h2, h3, h4, h5, h6, h7, h8, h9⟩ := h
  refine ⟨h1.fr hf (fun _ => by omega) (fun _ => by omega) (fun _ => by omega) (fun _ => by omega), ?_, ?_, h4', h5', ⟨?_, ?_⟩, ?_, ⟨h8', ?_⟩, ?_⟩
  · rcases h2 with ⟨e1, q⟩ | ⟨l0, q1, q2⟩
    · exact Or.inl ⟨e1, by rw [e 19 (by decide) (by decide) (by decide) (by decide)]; exact q⟩
    · exact Or.inr ⟨l0, by rw [e 19 (by decide) (by decide) (by decide) (by decide)]; exact q1, fun k hk' => by rw [(hf 54 k (by omega)).1]; exact q2 k hk'⟩
  · obtain ⟨m, w, o, ⟨q1, q2, q3⟩, k2⟩ := h3
    exact ⟨m, w, o, ⟨by rw [e 33 (by decide) (by decide) (by decide) (by decide)]; exact q1, q2, fun z hz => by rw [(hf 58 z (by omega)).1]; exact q3 z hz⟩, k2⟩
  · rw [e 1 (by decide) (by decide) (by decide) (by decide)]; exact h6.1
  · rw [(hf 41 0 (by omega)).1]; exact h6.2
  · rw [e 3 (by decide) (by decide) (by decide) (by decide)]; exact h7
  · rw [(hf 42 0 (by omega)).1]; exact h8.2
  · rw [e 47 (by decide) (by decide) (by decide) (by decide)]; exact h9
theorem img_0 {S : qSt} {k : Nat} (hk : k < 29) : img S (1 + k) = q_I S 65 0 k := by
  unfold img
  rw [if_neg (by omega), if_pos (by omega), show 1 + k - 1 = k by omega]
theorem img_j {S : qSt} {j k : Nat} (hk : k < 29) : img S (30 + 29 * j + k) = q_I S 65 (4 + j) k := by
  unfold img
  rw [if_neg (by omega), if_neg (by omega), show (30 + 29 * j + k - 30) / 29 = j by omega, show (30 + 29 * j + k - 30) % 29 = k by omega]
theorem r_undo (l : Launch) {S : qSt} {a : AS} {B : Nat} (hR : RF S a) (hO : OKA a B) : RA l k_X11_undo [.inr (.inr (40, 0))] S (sp_undo a) := by
  have hR0 := hR.th (v := 0)
  have h16 := hO.2.2.1
  unfold sp_undo
  by_cases e : aW a = 0
  · rw [if_pos e]
    refine RA_s (d := 5) (by decide) hR ?_
    refine q_meth zoX11_undo q_fos (Nat.le_of_ble_eq_true rfl) ?_
    intro AT step
    refine step 40 [] 0 _ _ _ ?_
    simp only [q_vcs, q_vcc, q_vl, q_vu, ↓reduceIte, Nat.reduceEqDiff, Bool.false_eq_true, q_isc, q_mk, q_msk, zbX11_undo, q_pad, q_ent, q_get, q_put, q_nl, q_w, List.cons_append, List.nil_append, q_aks, q_als, Nat.reduceAdd, Nat.reduceLeDiff, Nat.zero_le, true_and, and_true, Option.some.injEq, Sum.inl.injEq, Sum.inr.injEq, true_or, or_true, and_self, q_sw]
    rw [hR0.2.2.2.1.1, e]
    exact ⟨fun q => absurd rfl q, fun _ => by first | trivial | exact ⟨rfl, rfl⟩⟩
  · rw [if_neg e]
    refine RA_r (d := 5) (by decide) ?_
    refine q_meth zoX11_undo q_fos (Nat.le_of_ble_eq_true rfl) ?_
    intro AT step
    refine step 40 [] 0 _ _ _ ?_
    simp only [q_vcs, q_vcc, q_vl, q_vu, ↓reduceIte, Nat.reduceEqDiff, Bool.false_eq_true, q_isc, q_mk, q_msk, zbX11_undo, q_pad, q_ent, q_get, q_put, q_nl, q_w, List.cons_append, List.nil_append, q_aks, q_als, Nat.reduceAdd, Nat.reduceLeDiff, Nat.zero_le, true_and, and_true, Option.some.injEq, Sum.inl.injEq, Sum.inr.injEq, true_or, or_true, and_self, q_sw]
    have em : nI (aW a) - 1 = nI (aW a - 1) := by
      have := i_m1 (aW a - 1)
      rwa [Nat.sub_add_cancel (by omega)] at this
    rw [hR0.2.2.2.1.1, nI_z (by omega), em, q_I_wI, if_pos ⟨rfl, rfl, rfl⟩, i_cl (by omega)]
    refine ⟨fun _ => ⟨i_in (by omega) (by decide), ?_⟩, fun q => absurd q e⟩
    refine ⟨_, _, (by decide : 0 < 5), c_mcopies l _ (i := 4 + (aW a - 1)) (k := 0) (by omega), fun S2 h => ?_⟩
    obtain ⟨c1, c2⟩ := h
    have e40 : q_I S2 40 0 = q_I (q_wI (q_wI S 40 0 0 0) 40 0 34 (nI (aW a - 1))) 40 0 := (c2 40 0 (by decide)).1
    have f1 : fr (fun f i => f = 40 ∨ (f = 65 ∧ i = 0)) (q_wI S 40 0 0 0) (q_wI S2 40 0 35 0) := fr.wI ((fr.wI fr.rf (Or.inl rfl)).tr (c2.mn (fun f i z => Or.inr z))) (Or.inl rfl)
    have e34 : q_I (q_wI S2 40 0 35 0) 40 0 34 = nI (aW a - 1) := by rw [q_I_wI, if_neg (by omega), e40, q_I_wI, if_pos ⟨rfl, rfl, rfl⟩]
    have ej : ∀ j, j ≠ 34 → j ≠ 35 → q_I (q_wI S2 40 0 35 0) 40 0 j = q_I (q_wI S 40 0 0 0) 40 0 j := fun j h1 h2 => by rw [q_I_wI, if_neg (by omega), e40, q_I_wI, if_neg (by omega)]
    refine ⟨e34, ?_, RF_im hR0 (fun j h1 h2 _ _ => ej j h1 h2) (f1.mn (fun f i z => by omega)) ⟨e34, ?_, fun j hj => (hR0.2.2.2.1.2.2 j (by omega)).fr f1 (by omega)⟩ ⟨?_, fun i hi => ?_⟩ ?_, fth.tr (f1.mn (fun f i z => by show 40 ≤ f ∧ f < 80; omega))⟩
    · rw [ej 0 (by decide) (by decide), q_I_wI, if_pos ⟨rfl, rfl, rfl⟩]
    · refine RVf_cg (hO.2.2.2.1 (aW a - 1) (by omega)).1.1 (hR0.2.2.2.1.2.2 (aW a - 1) (by omega)) (fun k hk => ?_)
      rw [q_I_wI, if_neg (by omega), c1 k hk, q_I_wI, if_neg (by omega)]
    · rw [ej 36 (by decide) (by decide)]; exact hR0.2.2.2.2.1.1
    · unfold MI
      rw [(f1 68 i (by omega)).1]
      exact hR0.2.2.2.2.1.2 i hi
    · rw [q_I_wI, if_pos ⟨rfl, rfl, rfl⟩]; rfl
theorem r_image (l : Launch) {S : qSt} {a : AS} {B : Nat} (hR : RF S a) (hO : OKA a B) : RA l k_X11_image [.inr (.inr (40, 0))] S (sp_image a) := by
  have hR0 := hR.th (v := 0)
  have h3 := hO.2.2.2.2.1
  unfold sp_image
  by_cases e : aNi a = 3
  · rw [if_pos e]
    refine RA_s (d := 5) (by decide) hR ?_
    refine q_meth zoX11_image q_fos (Nat.le_of_ble_eq_true rfl) ?_
    intro AT step
    refine step 40 [] 0 _ _ _ ?_
    simp only [q_vcs, q_vcc, q_vl, q_vu, ↓reduceIte, Nat.reduceEqDiff, Bool.false_eq_true, q_isc, q_mk, q_msk, zbX11_image, q_pad, q_ent, q_get, q_put, q_nl, q_w, List.cons_append, List.nil_append, q_aks, q_als, Nat.reduceAdd, Nat.reduceLeDiff, Nat.zero_le, true_and, and_true, Option.some.injEq, Sum.inl.injEq, Sum.inr.injEq, true_or, or_true, and_self, q_sw]
    rw [hR0.2.2.2.2.1.1, e]
    exact ⟨fun q => absurd rfl q, fun _ => by first | trivial | exact ⟨rfl, rfl⟩⟩
  · rw [if_neg e]
    refine RA_r (d := 5) (by decide) ?_
    refine q_meth zoX11_image q_fos (Nat.le_of_ble_eq_true rfl) ?_
    intro AT step
    refine step 40 [] 0 _ _ _ ?_
    simp only [q_vcs, q_vcc, q_vl, q_vu, ↓reduceIte, Nat.reduceEqDiff, Bool.false_eq_true, q_isc, q_mk, q_msk, zbX11_image, q_pad, q_ent, q_get, q_put, q_nl, q_w, List.cons_append, List.nil_append, q_aks, q_als, Nat.reduceAdd, Nat.reduceLeDiff, Nat.zero_le, true_and, and_true, Option.some.injEq, Sum.inl.injEq, Sum.inr.injEq, true_or, or_true, and_self, q_sw]
    rw [hR0.2.2.2.2.1.1, show (3 : Int32) = nI 3 from rfl, nI_eq (by omega) (by decide), i_cl (by omega)]
    refine ⟨fun _ => ⟨i_in (by omega) (by decide), ?_⟩, fun q => absurd q e⟩
    refine ⟨_, _, (by decide : 1 < 5), c_mputsAll l _ (i := aNi a) (b := false), fun S2 h => ?_⟩
    obtain ⟨c1, c2, c3, c4⟩ := h
    have e36 : q_I S2 40 0 36 = nI (aNi a) := (c3 36 (by decide) (by decide)).trans hR0.2.2.2.2.1.1
    rw [e36, nI_1]
    have f1 : fr (fun f k => f = 40 ∨ (f = 65 ∧ (k = 0 ∨ 4 ≤ k)) ∨ (f = 68 ∧ k = aNi a)) (q_wI S 40 0 0 0) (q_wI S2 40 0 36 (nI (aNi a + 1))) := fr.wI c4 (Or.inl rfl)
    have e34 : q_I (q_wI S2 40 0 36 (nI (aNi a + 1))) 40 0 34 = nI (aW a) := by
      rw [q_I_wI, if_neg (by omega)]
      exact ((c2 0 (by decide)).1 (by decide)).2.trans hR0.2.2.2.1.1
    have ej : ∀ j, j ≠ 34 → j ≠ 36 → j ≠ 37 → q_I (q_wI S2 40 0 36 (nI (aNi a + 1))) 40 0 j = q_I (q_wI S 40 0 0 0) 40 0 j := fun j h1 h2 h3 => by rw [q_I_wI, if_neg (by omega)]; exact c3 j h1 h3
    have h16 := hO.2.2.1
    have hr0 : ∀ k, k < 29 → q_I (q_wI S2 40 0 36 (nI (aNi a + 1))) 65 0 k = q_I (q_wI S 40 0 0 0) 65 0 k := fun k hk => by
      have := ((c2 (1 + k) (by omega)).1 (by omega)).2
      rw [img_0 hk] at this
      rw [q_I_wI, if_neg (by omega), this, if_neg (by decide), img_0 hk]
    have hrj : ∀ j, j < 16 → ∀ k, k < 29 → q_I (q_wI S2 40 0 36 (nI (aNi a + 1))) 65 (4 + j) k = q_I (q_wI S 40 0 0 0) 65 (4 + j) k := fun j hj k hk => by
      have := ((c2 (30 + 29 * j + k) (by omega)).1 (by omega)).2
      rw [img_j hk] at this
      rw [q_I_wI, if_neg (by omega), this, if_neg (by decide), img_j hk]
    have hm : ∀ y, y < 494 → q_I (q_wI S2 40 0 36 (nI (aNi a + 1))) 68 (aNi a) y = img (q_wI S 40 0 0 0) y := fun y hy => by
      rw [q_I_wI, if_neg (by omega), ((c2 y hy).1 hy).1, if_neg (by decide)]
    have gW := fun j (hj : j ≤ aW a) => (hO.2.2.2.1 j hj).1.1
    refine ⟨?_, ?_, RF_im hR0 (fun j h1 _ h2 h3 => ej j h1 h2 h3) (f1.mn (fun f i z => by omega)) ⟨e34, ?_, fun j hj => ?_⟩ ⟨?_, fun i hi => ?_⟩ ?_, fth.tr (f1.mn (fun f i z => by show 40 ≤ f ∧ f < 80; omega))⟩
    · rw [q_I_wI, if_pos ⟨rfl, rfl, rfl⟩]
    · rw [ej 0 (by decide) (by decide) (by decide), q_I_wI, if_pos ⟨rfl, rfl, rfl⟩]
    · exact RVf_cg (gW _ (Nat.le_refl _)) hR0.2.2.2.1.2.1 hr0
    · exact RVf_cg (gW j (by omega)) (hR0.2.2.2.1.2.2 j hj) (hrj j (by omega))
    · rw [q_I_wI, if_pos ⟨rfl, rfl, rfl⟩]
    · by_cases ei : i = aNi a
      · subst ei
        simp only [if_true]
        refine ⟨?_, ?_, fun j hj => ?_⟩
        · rw [hm 0 (by decide)]; exact hR0.2.2.2.1.1
        · refine RVf_cg (gW _ (Nat.le_refl _)) hR0.2.2.2.1.2.1 (fun k hk => ?_)
          rw [hm (1 + k) (by omega), img_0 hk]
        · refine RVf_cg (gW j (by omega)) (hR0.2.2.2.1.2.2 j hj) (fun k hk => ?_)
          rw [hm (30 + 29 * j + k) (by omega), img_j hk]
      · dsimp only
        rw [if_neg ei]
        unfold MI
        rw [(f1 68 i (by omega)).1]
        exact hR0.2.2.2.2.1.2 i (by omega)
    · rw [ej 35 (by decide) (by decide) (by decide)]; exact hR0.2.2.2.2.2.2.2.1.1
theorem r_restore (l : Launch) {S : qSt} {a : AS} {B : Nat} (hR : RF S a) (hO : OKA a B) : RA l k_X11_restore [.inr (.inr (40, 0))] S (sp_rest a) := by
  have hR0 := hR.th (v := 0)
  have h3 := hO.2.2.2.2.1
  unfold sp_rest
  by_cases e : aNi a = 0
  · rw [if_pos e]
    refine RA_s (d := 5) (by decide) hR ?_
    refine q_meth zoX11_restore q_fos (Nat.le_of_ble_eq_true rfl) ?_
    intro AT step
    refine step 40 [] 0 _ _ _ ?_
    simp only [q_vcs, q_vcc, q_vl, q_vu, ↓reduceIte, Nat.reduceEqDiff, Bool.false_eq_true, q_isc, q_mk, q_msk, zbX11_restore, q_pad, q_ent, q_get, q_put, q_nl, q_w, List.cons_append, List.nil_append, q_aks, q_als, Nat.reduceAdd, Nat.reduceLeDiff, Nat.zero_le, true_and, and_true, Option.some.injEq, Sum.inl.injEq, Sum.inr.injEq, true_or, or_true, and_self, q_sw]
    rw [hR0.2.2.2.2.1.1, e]
    exact ⟨fun q => absurd rfl q, fun _ => by first | trivial | exact ⟨rfl, rfl⟩⟩
  · rw [if_neg e]
    refine RA_r (d := 5) (by decide) ?_
    refine q_meth zoX11_restore q_fos (Nat.le_of_ble_eq_true rfl) ?_
    intro AT step
    refine step 40 [] 0 _ _ _ ?_
    simp only [q_vcs, q_vcc, q_vl, q_vu, ↓reduceIte, Nat.reduceEqDiff, Bool.false_eq_true, q_isc, q_mk, q_msk, zbX11_restore, q_pad, q_ent, q_get, q_put, q_nl, q_w, List.cons_append, List.nil_append, q_aks, q_als, Nat.reduceAdd, Nat.reduceLeDiff, Nat.zero_le, true_and, and_true, Option.some.injEq, Sum.inl.injEq, Sum.inr.injEq, true_or, or_true, and_self, q_sw]
    have em : nI (aNi a) - 1 = nI (aNi a - 1) := by
      have := i_m1 (aNi a - 1)
      rwa [Nat.sub_add_cancel (by omega)] at this
    rw [hR0.2.2.2.2.1.1, nI_z (by omega), em, q_I_wI, if_pos ⟨rfl, rfl, rfl⟩, i_cl (by omega)]
    refine ⟨fun _ => ⟨i_in (by omega) (by decide), ?_⟩, fun q => absurd q e⟩
    refine ⟨_, _, (by decide : 1 < 5), c_mputsAll l _ (i := aNi a - 1) (b := true), fun S2 h => ?_⟩
    obtain ⟨c1, c2, c3, c4⟩ := h
    have f0 : fr (fun f k => f = 40 ∨ (f = 65 ∧ (k = 0 ∨ 4 ≤ k)) ∨ (f = 68 ∧ k = aNi a - 1)) (q_wI S 40 0 0 0) (q_wI (q_wI S 40 0 0 0) 40 0 36 (nI (aNi a - 1))) := fr.wI fr.rf (Or.inl rfl)
    have f1 : fr (fun f k => f = 40 ∨ (f = 65 ∧ (k = 0 ∨ 4 ≤ k)) ∨ (f = 68 ∧ k = aNi a - 1)) (q_wI S 40 0 0 0) (q_wI S2 40 0 35 0) := fr.wI (f0.tr c4) (Or.inl rfl)
    obtain ⟨m1, m2, m3⟩ := hR0.2.2.2.2.1.2 (aNi a - 1) (by omega)
    obtain ⟨o1, o2⟩ := hO.2.2.2.2.2.1 (aNi a - 1) (by omega)
    have gW := fun j hj => (o2 j hj).1.1
    have hi2 : ∀ y, y < 494 → img (q_wI S2 40 0 35 0) y = q_I (q_wI S 40 0 0 0) 68 (aNi a - 1) y := fun y hy => by
      have := ((c2 y hy).1 hy).2
      rw [if_pos rfl, q_I_wI, if_neg (by omega)] at this
      rw [← this]
      unfold img
      simp [q_I_wI]
    have ej : ∀ j, j ≠ 34 → j ≠ 35 → j ≠ 36 → j ≠ 37 → q_I (q_wI S2 40 0 35 0) 40 0 j = q_I (q_wI S 40 0 0 0) 40 0 j := fun j h1 h2 h3 h4 => by rw [q_I_wI, if_neg (by omega), c3 j h1 h4, q_I_wI, if_neg (by omega)]
    have e36 : q_I (q_wI S2 40 0 35 0) 40 0 36 = nI (aNi a - 1) := by rw [q_I_wI, if_neg (by omega), c3 36 (by decide) (by decide), q_I_wI, if_pos ⟨rfl, rfl, rfl⟩]
    refine ⟨e36, ?_, RF_im hR0 ej (f1.mn (fun f i z => by omega)) ⟨(hi2 0 (by decide)).trans m1, ?_, fun j hj => ?_⟩ ⟨e36, fun i hi => ?_⟩ ?_, fth.tr (f1.mn (fun f i z => by show 40 ≤ f ∧ f < 80; omega))⟩
    · rw [ej 0 (by decide) (by decide) (by decide) (by decide), q_I_wI, if_pos ⟨rfl, rfl, rfl⟩]
    · refine RVf_cg (gW _ (Nat.le_refl _)) m2 (fun k hk => ?_)
      rw [← hi2 (1 + k) (by omega), img_0 hk]
    · refine RVf_cg (gW j (by omega)) (m3 j hj) (fun k hk => ?_)
      rw [← hi2 (30 + 29 * j + k) (by omega), img_j hk]
    · unfold MI
      rw [(f1 68 i (by omega)).1]
      exact hR0.2.2.2.2.1.2 i (by omega)
    · rw [q_I_wI, if_pos ⟨rfl, rfl, rfl⟩]; rfl
