/-! The class: status, count, fault, undo, image, restore -/
theorem CL_up {S S' : qSt} {t : Nat} {a : AS} (h : CL S t a) (hf : fr (fun f _ => f = 0 ∨ f = 24 ∨ f = 26 ∨ f = 27) S S') (hM : q_M S' 0 0 = q_M S 0 0) {w : Nat} {h' : Nat → PV} {ni : Nat} {im : Nat → Nat × (Nat → PV)} {rs : Nat} (h4 : HR S' 0 w h') (h5 : CL5 S' ni im) (h8 : CL8 S' rs (aRn a) (aRi a)) : CL S' t (mkA (aY a) (aC a) (aLn a) (aOi a) w h' ni im (aT a) (aHd a) (aFp a) rs (aRn a) (aRi a)) := by
  obtain ⟨h1, h2, h3, _, _, h6, h7, _, h9⟩ := h
  refine ⟨?_, ?_, ?_, h4, h5, h6.fr hf (by omega) (by omega), ?_, h8, h9.fr hf (by omega) (by omega)⟩
  · unfold CL1
    rw [hM]
    exact ⟨h1.1, h1.2.1, h1.2.2.1, h1.2.2.2.fr hf (fun f _ _ q => by omega)⟩
  · unfold CL2
    rw [hM]
    exact ⟨h2.1, h2.2.1, h2.2.2.1, LC.fr h2.2.2.2 hf (by omega) (by omega)⟩
  · unfold CL3
    rw [hM]
    exact ⟨h3.1, h3.2.1, h3.2.2.1, h3.2.2.2.fr9 hf (by omega)⟩
  · show q_I S' 1 0 6 = _
    rw [(hf 1 0 (by omega)).1]
    exact h7
def sp_stat (a : AS) (x : Int32) : SPR := (.inr (if x = 0 then nI (aRn a) else if x = 1 then nI (aRi a) else -1), a)
def sp_cnt (a : AS) (x : Int32) : SPR := (.inr (if x = 0 then nI (aNi a) else if x = 1 then nI (aHd a) else if x = 2 then nI (aW a) else -1), a)
def sp_fault (a : AS) : SPR := (.inr (oI (aFp a)), a)
def sp_undo (a : AS) : SPR := if aW a = 0 then (.inr (-1), a) else (.inr (nI (aW a - 1)), mkA (aY a) (aC a) (aLn a) (aOi a) (aW a - 1) (aH a) (aNi a) (aIm a) (aT a) (aHd a) (aFp a) 0 (aRn a) (aRi a))
def sp_image (a : AS) : SPR := if aNi a = 3 then (.inr (-1), a) else (.inr (nI (aNi a + 1)), mkA (aY a) (aC a) (aLn a) (aOi a) (aW a) (aH a) (aNi a + 1) (fun i => if i = aNi a then (aW a, aH a) else aIm a i) (aT a) (aHd a) (aFp a) (aRs a) (aRn a) (aRi a))
def sp_rest (a : AS) : SPR := if aNi a = 0 then (.inr (-1), a) else (.inr (nI (aNi a - 1)), mkA (aY a) (aC a) (aLn a) (aOi a) (aIm a (aNi a - 1)).1 (aIm a (aNi a - 1)).2 (aNi a - 1) (aIm a) (aT a) (aHd a) (aFp a) 0 (aRn a) (aRi a))
theorem a_status (l : Launch) {S : qSt} {t : Nat} {a : AS} (hC : CL S t a) (x : Int32) : CA l k_X10_status [.inr (.inr (0, 0)), .inl x] S t nmI (sp_stat a x) := by
  refine CA_s (d := 5) (by decide) hC ?_
  have h8 := hC.2.2.2.2.2.2.2.1
  refine q_meth zoX10_status q_fos (Nat.le_of_ble_eq_true rfl) ?_
  intro AT step
  refine step 40 [] 0 _ _ _ ?_
  simp only [q_vcs, q_vcc, q_vl, q_vu, ↓reduceIte, Nat.reduceEqDiff, Bool.false_eq_true, q_isc, q_mk, q_msk, zbX10_status, q_pad, q_ent, q_get, q_put, q_nl, q_w, List.cons_append, List.nil_append, q_aks, q_als, Nat.reduceAdd, Nat.reduceLeDiff, Nat.zero_le, true_and, and_true, Option.some.injEq, Sum.inl.injEq, Sum.inr.injEq, true_or, or_true, and_self, q_sw]
  rw [h8.2.1, h8.2.2]
  refine ⟨fun e => ?_, fun e0 => ⟨fun e => ?_, fun e1 => ?_⟩⟩
  · rw [if_pos e]
  · rw [if_neg e0, if_pos e]
  · rw [if_neg e0, if_neg e1]
theorem a_count (l : Launch) {S : qSt} {t : Nat} {a : AS} (hC : CL S t a) (x : Int32) : CA l k_X10_count [.inr (.inr (0, 0)), .inl x] S t nmI (sp_cnt a x) := by
  refine CA_s (d := 5) (by decide) hC ?_
  refine q_meth zoX10_count q_fos (Nat.le_of_ble_eq_true rfl) ?_
  intro AT step
  refine step 40 [] 0 _ _ _ ?_
  simp only [q_vcs, q_vcc, q_vl, q_vu, ↓reduceIte, Nat.reduceEqDiff, Bool.false_eq_true, q_isc, q_mk, q_msk, zbX10_count, q_pad, q_ent, q_get, q_put, q_nl, q_w, List.cons_append, List.nil_append, q_aks, q_als, Nat.reduceAdd, Nat.reduceLeDiff, Nat.zero_le, true_and, and_true, Option.some.injEq, Sum.inl.injEq, Sum.inr.injEq, true_or, or_true, and_self, q_sw]
  rw [hC.2.2.2.2.1.1, hC.2.2.2.2.2.1.2.1, hC.2.2.2.1.1]
  refine ⟨fun e => ?_, fun e0 => ⟨fun e => ?_, fun e1 => ⟨fun e => ?_, fun e2 => ?_⟩⟩⟩
  · rw [if_pos e]
  · rw [if_neg e0, if_pos e]
  · rw [if_neg e0, if_neg e1, if_pos e]
  · rw [if_neg e0, if_neg e1, if_neg e2]
theorem a_fault (l : Launch) {S : qSt} {t : Nat} {a : AS} (hC : CL S t a) : CA l k_X10_fault [.inr (.inr (0, 0))] S t nmI (sp_fault a) := by
  refine CA_s (d := 5) (by decide) hC ?_
  refine q_meth zoX10_fault q_fos (Nat.le_of_ble_eq_true rfl) ?_
  intro AT step
  refine step 40 [] 0 _ _ _ ?_
  simp only [q_vcs, q_vcc, q_vl, q_vu, ↓reduceIte, Nat.reduceEqDiff, Bool.false_eq_true, q_isc, q_mk, q_msk, zbX10_fault, q_pad, q_ent, q_get, q_put, q_nl, q_w, List.cons_append, List.nil_append, q_aks, q_als, Nat.reduceAdd, Nat.reduceLeDiff, Nat.zero_le, true_and, and_true, Option.some.injEq, Sum.inl.injEq, Sum.inr.injEq, true_or, or_true, and_self, q_sw]
  exact hC.2.2.2.2.2.2.1
theorem a_undo (l : Launch) {S : qSt} {t : Nat} {a : AS} {B : Nat} (hC : CL S t a) (hO : OKA a B) : CA l k_X10_undo [.inr (.inr (0, 0))] S t nmI (sp_undo a) := by
  have h16 := hO.2.2.1
  have hH := hC.2.2.2.1
  unfold sp_undo
  by_cases e : aW a = 0
  · rw [if_pos e]
    refine CA_s (d := 5) (by decide) hC ?_
    refine q_meth zoX10_undo q_fos (Nat.le_of_ble_eq_true rfl) ?_
    intro AT step
    refine step 40 [] 0 _ _ _ ?_
    simp only [q_vcs, q_vcc, q_vl, q_vu, ↓reduceIte, Nat.reduceEqDiff, Bool.false_eq_true, q_isc, q_mk, q_msk, zbX10_undo, q_pad, q_ent, q_get, q_put, q_nl, q_w, List.cons_append, List.nil_append, q_aks, q_als, Nat.reduceAdd, Nat.reduceLeDiff, Nat.zero_le, true_and, and_true, Option.some.injEq, Sum.inl.injEq, Sum.inr.injEq, true_or, or_true, and_self, q_sw]
    rw [hH.1, e]
    exact ⟨fun h => absurd rfl h, fun _ => trivial⟩
  · rw [if_neg e]
    refine CA_r (d := 5) (by decide) ?_
    refine q_meth zoX10_undo q_fos (Nat.le_of_ble_eq_true rfl) ?_
    intro AT step
    refine step 40 [] 0 _ _ _ ?_
    simp only [q_vcs, q_vcc, q_vl, q_vu, ↓reduceIte, Nat.reduceEqDiff, Bool.false_eq_true, q_isc, q_mk, q_msk, zbX10_undo, q_pad, q_ent, q_get, q_put, q_nl, q_w, List.cons_append, List.nil_append, q_aks, q_als, Nat.reduceAdd, Nat.reduceLeDiff, Nat.zero_le, true_and, and_true, Option.some.injEq, Sum.inl.injEq, Sum.inr.injEq, true_or, or_true, and_self, q_sw]
    have em : nI (aW a) - 1 = nI (aW a - 1) := by
      have := i_m1 (aW a - 1)
      rwa [Nat.sub_add_cancel (by omega)] at this
    rw [hH.1, em, show (0 : Int32) = nI 0 from rfl, nI_eq (by omega) (by decide)]
    refine ⟨fun _ => ⟨?_, ⟨t, by omega, ?_⟩, ?_⟩, fun h => absurd h e⟩
    · rw [q_I_wI, if_neg (by omega), q_I_wI, if_pos ⟨rfl, rfl, rfl⟩]
    · have hf : fr (fun f _ => f = 0 ∨ f = 24) S (q_wI (q_wI S 24 0 1 (nI (aW a - 1))) 0 0 13 (nI 0)) := fr.wI (fr.wI fr.rf (Or.inr rfl)) (Or.inl rfl)
      refine CL_up hC (hf.mn (fun f i q => by omega)) rfl ⟨?_, by omega, fun i hi => (hH.2.2 i (by omega)).fr hf (by omega) (by omega)⟩ ⟨?_, fun i hi => ?_⟩ ⟨?_, ?_, ?_⟩
      · rw [q_I_wI, if_neg (by omega), q_I_wI, if_pos ⟨rfl, rfl, rfl⟩]
      · rw [q_I_wI, if_neg (by omega), q_I_wI, if_neg (by omega)]; exact hC.2.2.2.2.1.1
      · have := hC.2.2.2.2.1.2 i hi
        refine ⟨?_, this.2.1, fun j hj => (this.2.2 j hj).fr hf (by omega) (by omega)⟩
        rw [q_I_wI, if_neg (by omega), q_I_wI, if_neg (by omega)]
        exact this.1
      · rw [q_I_wI, if_pos ⟨rfl, rfl, rfl⟩]
      · rw [q_I_wI, if_neg (by omega), q_I_wI, if_neg (by omega)]; exact hC.2.2.2.2.2.2.2.1.2.1
      · rw [q_I_wI, if_neg (by omega), q_I_wI, if_neg (by omega)]; exact hC.2.2.2.2.2.2.2.1.2.2
    · exact fr.wI (fr.wI fr.rf (by decide)) (by decide)
theorem HR_o {S S' : qSt} {p q w : Nat} {h : Nat → PV} (hh : HR S p w h) (hf : fr (Fh q) S S') (hpq : p ≠ q) : HR S' p w h := hh.fr hf (fun z => by rcases z with z | z <;> omega) (fun i hi => ⟨fun z => by rcases z with z | z <;> omega, fun z => by rcases z with z | z <;> omega⟩)
theorem a_image (l : Launch) {S : qSt} {t : Nat} {a : AS} {B : Nat} (hC : CL S t a) (hO : OKA a B) : CA l k_X10_image [.inr (.inr (0, 0))] S t nmI (sp_image a) := by
  have h3 := hO.2.2.2.2.1
  have hH := hC.2.2.2.1
  have h5 := hC.2.2.2.2.1
  unfold sp_image
  by_cases e : aNi a = 3
  · rw [if_pos e]
    refine CA_s (d := 5) (by decide) hC ?_
    refine q_meth zoX10_image q_fos (Nat.le_of_ble_eq_true rfl) ?_
    intro AT step
    refine step 40 [] 0 _ _ _ ?_
    simp only [q_vcs, q_vcc, q_vl, q_vu, ↓reduceIte, Nat.reduceEqDiff, Bool.false_eq_true, q_isc, q_mk, q_msk, zbX10_image, q_pad, q_ent, q_get, q_put, q_nl, q_w, List.cons_append, List.nil_append, q_aks, q_als, Nat.reduceAdd, Nat.reduceLeDiff, Nat.zero_le, true_and, and_true, Option.some.injEq, Sum.inl.injEq, Sum.inr.injEq, true_or, or_true, and_self, q_sw]
    rw [h5.1, e]
    exact ⟨fun h => absurd h (by decide), fun _ => trivial⟩
  · rw [if_neg e]
    refine CA_r (d := 5) (by decide) ?_
    refine q_meth zoX10_image q_fos (Nat.le_of_ble_eq_true rfl) ?_
    intro AT step
    refine step 40 [] 0 _ _ _ ?_
    simp only [q_vcs, q_vcc, q_vl, q_vu, ↓reduceIte, Nat.reduceEqDiff, Bool.false_eq_true, q_isc, q_mk, q_msk, zbX10_image, q_pad, q_ent, q_get, q_put, q_nl, q_w, List.cons_append, List.nil_append, q_aks, q_als, Nat.reduceAdd, Nat.reduceLeDiff, Nat.zero_le, true_and, and_true, Option.some.injEq, Sum.inl.injEq, Sum.inr.injEq, true_or, or_true, and_self, q_sw]
    rw [h5.1, show (3 : Int32) = nI 3 from rfl, nI_ltI (by omega) (by decide), i_cl (by omega)]
    refine ⟨fun _ => ⟨i_in (by omega) (by decide), ?_⟩, fun h => absurd (by omega) h⟩
    refine ⟨_, _, (by decide : 2 < 5), c_hbecome l S (a := 1 + aNi a) (b := 0) (by omega) hH, fun S1 h1 => ?_⟩
    obtain ⟨g1, g2⟩ := h1
    have e0 := g2 0 0 (fun z => by rcases z with z | z <;> omega)
    rw [e0.1, h5.1, nI_1]
    refine ⟨?_, ⟨t, by omega, ?_⟩, ?_⟩
    · rw [q_I_wI, if_pos ⟨rfl, rfl, rfl⟩]
    · have hf : fr (fun f _ => f = 0 ∨ f = 24 ∨ f = 26 ∨ f = 27) S (q_wI S1 0 0 12 (nI (aNi a + 1))) := fr.wI (g2.mn (fun f i q => by rcases q with q | q <;> omega)) (Or.inl rfl)
      refine CL_up hC hf (by show q_M S1 0 0 = _; exact e0.2.2) (HR_w0 (HR_o hH g2 (by omega))) ⟨?_, fun i hi => ?_⟩ ⟨?_, ?_, ?_⟩
      · rw [q_I_wI, if_pos ⟨rfl, rfl, rfl⟩]
      · dsimp only
        by_cases z : i = aNi a
        · subst z
          rw [if_pos rfl]
          exact HR_w0 g1
        · rw [if_neg z]
          exact HR_w0 (HR_o (h5.2 i (by omega)) g2 (by omega))
      · rw [q_I_wI, if_neg (by omega), e0.1]; exact hC.2.2.2.2.2.2.2.1.1
      · rw [q_I_wI, if_neg (by omega), e0.1]; exact hC.2.2.2.2.2.2.2.1.2.1
      · rw [q_I_wI, if_neg (by omega), e0.1]; exact hC.2.2.2.2.2.2.2.1.2.2
    · exact fr.wI (g2.mn (fun f i q => by show f < 40; rcases q with q | q <;> omega)) (by decide)
theorem a_restore (l : Launch) {S : qSt} {t : Nat} {a : AS} {B : Nat} (hC : CL S t a) (hO : OKA a B) : CA l k_X10_restore [.inr (.inr (0, 0))] S t nmI (sp_rest a) := by
  have h3 := hO.2.2.2.2.1
  have hH := hC.2.2.2.1
  have h5 := hC.2.2.2.2.1
  unfold sp_rest
  by_cases e : aNi a = 0
  · rw [if_pos e]
    refine CA_s (d := 5) (by decide) hC ?_
    refine q_meth zoX10_restore q_fos (Nat.le_of_ble_eq_true rfl) ?_
    intro AT step
    refine step 40 [] 0 _ _ _ ?_
    simp only [q_vcs, q_vcc, q_vl, q_vu, ↓reduceIte, Nat.reduceEqDiff, Bool.false_eq_true, q_isc, q_mk, q_msk, zbX10_restore, q_pad, q_ent, q_get, q_put, q_nl, q_w, List.cons_append, List.nil_append, q_aks, q_als, Nat.reduceAdd, Nat.reduceLeDiff, Nat.zero_le, true_and, and_true, Option.some.injEq, Sum.inl.injEq, Sum.inr.injEq, true_or, or_true, and_self, q_sw]
    rw [h5.1, e]
    exact ⟨fun h => absurd h (by decide), fun _ => trivial⟩
  · rw [if_neg e]
    refine CA_r (d := 5) (by decide) ?_
    refine q_meth zoX10_restore q_fos (Nat.le_of_ble_eq_true rfl) ?_
    intro AT step
    refine step 40 [] 0 _ _ _ ?_
    simp only [q_vcs, q_vcc, q_vl, q_vu, ↓reduceIte, Nat.reduceEqDiff, Bool.false_eq_true, q_isc, q_mk, q_msk, zbX10_restore, q_pad, q_ent, q_get, q_put, q_nl, q_w, List.cons_append, List.nil_append, q_aks, q_als, Nat.reduceAdd, Nat.reduceLeDiff, Nat.zero_le, true_and, and_true, Option.some.injEq, Sum.inl.injEq, Sum.inr.injEq, true_or, or_true, and_self, q_sw]
    have em : nI (aNi a) - 1 = nI (aNi a - 1) := by
      have := i_m1 (aNi a - 1)
      rwa [Nat.sub_add_cancel (by omega)] at this
    have e12 : q_I (q_wI S 0 0 12 (nI (aNi a - 1))) 0 0 12 = nI (aNi a - 1) := by rw [q_I_wI, if_pos ⟨rfl, rfl, rfl⟩]
    rw [h5.1, em, e12, show (0 : Int32) = nI 0 from rfl, nI_ltI (by decide) (by omega), i_cl (by omega)]
    refine ⟨fun _ => ⟨i_in (by omega) (by decide), ?_⟩, fun h => absurd (by omega) h⟩
    have hI := HR_w0 (j := 12) (v := nI (aNi a - 1)) (h5.2 (aNi a - 1) (by omega))
    refine ⟨_, _, (by decide : 2 < 5), c_hbecome l _ (a := 0) (b := 1 + (aNi a - 1)) (by omega) hI, fun S1 h1 => ?_⟩
    obtain ⟨g1, g2⟩ := h1
    have e0 := g2 0 0 (fun z => by rcases z with z | z <;> omega)
    refine ⟨?_, ⟨t, by omega, ?_⟩, ?_⟩
    · rw [q_I_wI, if_neg (by omega), e0.1, e12]
    · have hf : fr (fun f _ => f = 0 ∨ f = 24 ∨ f = 26 ∨ f = 27) S (q_wI S1 0 0 13 (nI 0)) := fr.wI ((fr.wI fr.rf (Or.inl rfl)).tr (g2.mn (fun f i q => by rcases q with q | q <;> omega))) (Or.inl rfl)
      refine CL_up hC hf (by show q_M S1 0 0 = _; exact e0.2.2) (HR_w0 g1) ⟨?_, fun i hi => ?_⟩ ⟨?_, ?_, ?_⟩
      · rw [q_I_wI, if_neg (by omega), e0.1, e12]
      · exact HR_w0 (HR_o (HR_w0 (h5.2 i (by omega))) g2 (by omega))
      · rw [q_I_wI, if_pos ⟨rfl, rfl, rfl⟩]
      · rw [q_I_wI, if_neg (by omega), e0.1, q_I_wI, if_neg (by omega)]; exact hC.2.2.2.2.2.2.2.1.2.1
      · rw [q_I_wI, if_neg (by omega), e0.1, q_I_wI, if_neg (by omega)]; exact hC.2.2.2.2.2.2.2.1.2.2
    · exact fr.wI ((fr.wI fr.rf (by decide)).tr (g2.mn (fun f i q => by show f < 40; rcases q with q | q <;> omega))) (by decide)
