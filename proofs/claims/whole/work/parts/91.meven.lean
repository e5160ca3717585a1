/-! The reference: the best evening -/
def updE (b : Option Nat) (v : Nat) : Option Nat := match b with
  | none => some v
  | some a => if v / 4096 < a / 4096 then some v else some a
/-- the evenings in their order, each as 4096 times the pairs and its lanes -/
def LV (Y : YD) (told : Nat) : Nat → Nat → (Nat → List Nat) → Nat → List Nat
  | 0, _, P, g => [4096 * prs Y P + g]
  | k + 1, c, P, g => if told.testBit c = true then (List.range (Y 0 0)).flatMap (fun j => if rmZ Y P j < lgt Y c then [] else LV Y told k (c + 1) (sp P j (c :: P j)) (4 * g + j)) else LV Y told k (c + 1) P g
def EVb (S : qSt) (b : Option Nat) : Prop := q_I S 40 0 48 = oI (b.map (· / 4096)) ∧ q_I S 40 0 49 = oI (b.map (· % 4096)) ∧ ∀ v, b = some v → v < 2 ^ 20
def Ke (S S' : qSt) : Prop := (∀ j, j ≠ 48 → j ≠ 49 → q_I S' 40 0 j = q_I S 40 0 j) ∧ fr (fun f k => f = 40 ∨ (f = 65 ∧ k = 1)) S S'
theorem Ke.tr {S S1 S2 : qSt} (a : Ke S S1) (b : Ke S1 S2) : Ke S S2 := ⟨fun j h1 h2 => by rw [b.1 j h1 h2, a.1 j h1 h2], a.2.tr b.2⟩
theorem Ke.my {S S1 : qSt} {Y : YD} (a : Ke S S1) (h : MY S Y) : MY S1 Y := h.fr a.2 (fun i q => by rcases q with q | q <;> simp at q) (fun i q => by rcases q with q | q <;> simp at q) (fun i q => by rcases q with q | q <;> simp at q) (fun i q => by rcases q with q | q <;> simp at q)
theorem Ke.rf (S : qSt) : Ke S S := ⟨fun _ _ _ => rfl, fr.rf⟩
theorem Ke.row {S S1 : qSt} (h : fr (Fm 1) S S1) : Ke S S1 := ⟨fun j _ _ => congrFun (h 40 0 (fun q => by cases q.1)).1 j, h.mn fun f k q => Or.inr q⟩
theorem EVb.row {S S1 : qSt} {b : Option Nat} (h : EVb S b) (hf : fr (Fm 1) S S1) : EVb S1 b := by
  have e := fun j => congrFun (hf 40 0 (fun q => by cases q.1)).1 j
  exact ⟨by rw [e]; exact h.1, by rw [e]; exact h.2.1, h.2.2⟩
theorem c_mcomeHome (l : Launch) {Y : YD} (hY : y_ok Y) {told : Nat} (ht : told < 64) : ∀ (k c g : Nat) (P : Nat → List Nat) (b : Option Nat) (S : qSt), c + k = Y 1 0 → g < 4 ^ c → p_ok Y P → (∀ k x, x ∈ P k → x < c) → RW1 S 1 P → MY S Y → EVb S b → q_Met q_mt l (2 + k) k_X11_comeHome 0 [.inr (.inr (40, 0)), .inr (.inr (65, 1)), .inl (nI told), .inl (nI c), .inl (nI g)] S (fun _ S' => RW1 S' 1 P ∧ EVb S' ((LV Y told k c P g).foldl updE b) ∧ Ke S S') := by
  have h6 := hY.2.1
  have h3 := hY.1
  intro k
  induction k with
  | zero =>
    intro c g P b S hc hg hP hn hR hM hE
    refine q_meth zoX11_comeHome q_fos (Nat.le_of_ble_eq_true rfl) ?_
    intro AT step
    refine step 40 [(4, [true, true, true, true, true, true])] 0 _ _ _ ?_
    simp only [q_vcs, q_vcc, q_vl, q_vu, ↓reduceIte, Nat.reduceEqDiff, Bool.false_eq_true, q_isc, q_mk, q_msk, zbX11_comeHome, q_pad, q_ent, q_get, q_put, q_nl, q_w, List.cons_append, List.nil_append, q_aks, q_als, Nat.reduceAdd, Nat.reduceLeDiff, Nat.zero_le, true_and, and_true, Option.some.injEq, Sum.inl.injEq, Sum.inr.injEq, true_or, or_true, and_self, q_sw]
    have t1 : q_I S 44 0 (Int32.toNatClampNeg 1) = nI (Y 1 0) := hM.2.1
    have hg4 : (4 : Nat) ^ c ≤ 4 ^ 6 := Nat.pow_le_pow_right (by decide) (by omega)
    have hp := prs_le (Y := Y) hP.1
    have hv : (4096 * prs Y P + g) / 4096 = prs Y P ∧ (4096 * prs Y P + g) % 4096 = g := by omega
    rw [t1, nI_eq (by omega) (by omega), hE.1]
    refine ⟨i_in (k := 1) (by decide) (by decide), fun h => absurd (by omega) h, fun _ => ?_⟩
    have put : updE b (4096 * prs Y P + g) = some (4096 * prs Y P + g) → ∀ S', S' = q_wI (q_wI S 40 0 48 (nI (prs Y P))) 40 0 49 (nI g) → RW1 S' 1 P ∧ EVb S' ((LV Y told 0 c P g).foldl updE b) ∧ Ke S S' := by
      intro hu S' e
      subst e
      have e2 : (LV Y told 0 c P g).foldl updE b = some (4096 * prs Y P + g) := hu
      rw [e2]
      refine ⟨hR.fr (F := F40) (fr40 (fr40 fr.rf)) (fun q => by cases q), ⟨?_, ?_, fun v q => by cases q; omega⟩, fun j h1 h2 => ?_, fr.wI (fr.wI fr.rf (Or.inl rfl)) (Or.inl rfl)⟩
      · rw [q_I_wI, if_neg (by omega), q_I_wI, if_pos ⟨rfl, rfl, rfl⟩]
        show nI _ = nI ((4096 * prs Y P + g) / 4096)
        rw [hv.1]
      · rw [q_I_wI, if_pos ⟨rfl, rfl, rfl⟩]
        show nI _ = nI ((4096 * prs Y P + g) % 4096)
        rw [hv.2]
      · rw [q_I_wI, if_neg (by omega), q_I_wI, if_neg (by omega)]
    cases hb : b with
    | none =>
      rw [hb] at put
      refine ⟨fun _ => ?_, fun h => absurd rfl h⟩
      refine q_u1 (by decide) (c_mpairsIn l S hY hM hP hR) ?_
      exact put rfl _ rfl
    | some a =>
      have ha := hE.2.2 a hb
      rw [hb] at put
      refine ⟨fun h => absurd (show nI (a / 4096) = -1 from h) (i_ne1 (by omega)), fun _ => ?_⟩
      refine q_u1 (by decide) (c_mpairsIn l S hY hM hP hR) ?_
      rw [hE.1, hb]
      show (nI (prs Y P) < nI (a / 4096) → _) ∧ (¬ nI (prs Y P) < nI (a / 4096) → _)
      rw [nI_ltI (by omega) (by omega)]
      refine ⟨fun h => ?_, fun h => ?_⟩
      · refine q_u1 (by decide) (c_mpairsIn l S hY hM hP hR) ?_
        refine put ?_ _ rfl
        unfold updE
        dsimp only
        rw [hv.1, if_pos h]
      · have e2 : (LV Y told 0 c P g).foldl updE (some a) = some a := by
          show updE (some a) _ = _
          unfold updE
          dsimp only
          rw [hv.1, if_neg h]
        rw [e2]
        exact ⟨hR, hb ▸ hE, Ke.rf S⟩
  | succ k ih =>
    intro c g P b S hc hg hP hn hR hM hE
    refine q_meth zoX11_comeHome q_fos (Nat.le_of_ble_eq_true rfl) ?_
    intro AT step
    have hg4 : (4 : Nat) ^ c ≤ 4 ^ 5 := Nat.pow_le_pow_right (by decide) (by omega)
    have t1 : q_I S 44 0 (Int32.toNatClampNeg 1) = nI (Y 1 0) := hM.2.1
    have hL : told.testBit c = true → ∀ (m j : Nat) (S1 : qSt), j + m = Y 0 0 → RW1 S1 1 P → EVb S1 (((List.range j).flatMap (fun j => if rmZ Y P j < lgt Y c then [] else LV Y told k (c + 1) (sp P j (c :: P j)) (4 * g + j))).foldl updE b) → Ke S S1 → AT 4 [some (.inr (.inr (40, 0))), some (.inr (.inr (65, 1))), some (.inl (nI told)), some (.inl (nI c)), some (.inl (nI g)), some (.inl (nI j))] [] S1 := by
      intro htc m
      induction m with
      | zero =>
        intro j S1 hj hR1 hE1 hK1
        refine step 40 [(4, [true, true, true, true, true, true])] 4 _ _ _ ?_
        simp only [q_vcs, q_vcc, q_vl, q_vu, ↓reduceIte, Nat.reduceEqDiff, Bool.false_eq_true, q_isc, q_mk, q_msk, zbX11_comeHome, q_pad, q_ent, q_get, q_put, q_nl, q_w, List.cons_append, List.nil_append, q_aks, q_als, Nat.reduceAdd, Nat.reduceLeDiff, Nat.zero_le, true_and, and_true, Option.some.injEq, Sum.inl.injEq, Sum.inr.injEq, true_or, or_true, and_self, q_sw]
        have t0 : q_I S1 44 0 (Int32.toNatClampNeg 0) = nI (Y 0 0) := (hK1.my hM).1
        rw [t0, nI_leI (by omega) (by omega)]
        refine ⟨i_in (k := 0) (by decide) (by decide), fun _ => ?_, fun h => absurd (by omega) h⟩
        rw [LV, if_pos htc]
        rw [show j = Y 0 0 by omega] at hE1
        exact ⟨hR1, hE1, hK1⟩
      | succ m ihm =>
        intro j S1 hj hR1 hE1 hK1
        have hM1 := hK1.my hM
        have ihm := fun S2 => ihm (j + 1) S2 (by omega)
        simp only [List.range_succ, List.flatMap_append, List.foldl_append, List.flatMap_cons, List.flatMap_nil, List.append_nil] at ihm
        refine step 40 [(4, [true, true, true, true, true, true])] 4 _ _ _ ?_
        simp only [q_vcs, q_vcc, q_vl, q_vu, ↓reduceIte, Nat.reduceEqDiff, Bool.false_eq_true, q_isc, q_mk, q_msk, zbX11_comeHome, q_pad, q_ent, q_get, q_put, q_nl, q_w, List.cons_append, List.nil_append, q_aks, q_als, Nat.reduceAdd, Nat.reduceLeDiff, Nat.zero_le, true_and, and_true, Option.some.injEq, Sum.inl.injEq, Sum.inr.injEq, true_or, or_true, and_self, q_sw]
        have t0 : q_I S1 44 0 (Int32.toNatClampNeg 0) = nI (Y 0 0) := hM1.1
        rw [t0, nI_leI (by omega) (by omega), nI_1]
        refine ⟨i_in (k := 0) (by decide) (by decide), fun h => absurd h (by omega), fun _ => ?_⟩
        refine q_u1 (by omega) (c_mroomOf l S1 hY hM1 hP hR1 (j := j) (by omega)) ?_
        have e0 : q_I S1 52 c (Int32.toNatClampNeg 0) = nI (lgt Y c) := by
          unfold lgt
          rw [if_pos (by omega)]
          exact (hM1.2.2.2.2 c (by omega)).1
        rw [i_cl (by omega), e0, rmI_le hY hP.1 (by omega) (by have := lgt_le hY c; omega)]
        refine ⟨i_in (by omega) (by decide), i_in (k := 0) (by decide) (by decide), fun h => ?_, fun h => ?_⟩
        · rw [if_neg (by omega)] at ihm
          have hin := p_in hY hP (c := c) (by omega) (lnof_new hn) (k := j) (by omega)
          refine ⟨_, _, (by omega : 0 < 2 + (k + 1)), c_mcomesTo l S1 (c := c) hP.1 hR1 (j := j) (by omega) hin.2, fun S2 g2 => ?_⟩
          have e4 : 4 * nI g + nI j = nI (4 * g + j) := by rw [show (4 : Int32) = nI 4 from rfl, pk_mul, nI_add]
          have hK2 : Ke S S2 := hK1.tr (Ke.row g2.2.2)
          rw [e4, nI_1]
          refine ⟨_, _, (by omega : 2 + k < 2 + (k + 1)), ih (c + 1) (4 * g + j) (sp P j (c :: P j)) _ S2 (by omega) (by rw [Nat.pow_succ]; omega) hin.1 (sp_new hn) g2.1 (hK2.my hM) (hE1.row g2.2.2), fun S3 g3 => ?_⟩
          have hrow := g3.1 j (by omega)
          have esp : sp P j (c :: P j) j = c :: P j := by simp [sp]
          rw [esp] at hrow
          have hout := rw1_out hin.1.1 g3.1 (j := j) (by omega) (by rw [esp]; simp)
          have esp2 : sp (sp P j (c :: P j)) j (P j) = P := by
            rw [sp_same]
            funext z
            simp only [sp]
            split
            · rename_i e; rw [e]
            · rfl
          rw [esp, List.tail_cons, esp2] at hout
          have e9 : nI (c :: P j).length - 1 = nI ((c :: P j).length - 1) := i_m1 _
          have hfw : fr (Fm 1) S3 (q_wI S3 65 1 j (nI ((c :: P j).length - 1))) := fr.wI fr.rf ⟨rfl, rfl⟩
          rw [i_0, i_cl (by omega), hrow.1, e9]
          refine ⟨i_in (by omega) (by decide), i_in (by omega) (by decide), ?_⟩
          exact ihm _ hout (g3.2.1.row hfw) (hK2.tr (g3.2.2.tr (Ke.row hfw)))
        · rw [if_pos (by omega)] at ihm
          rw [nI_1]
          exact ihm S1 hR1 hE1 hK1
    refine step 40 [(4, [true, true, true, true, true, true])] 0 _ _ _ ?_
    simp only [q_vcs, q_vcc, q_vl, q_vu, ↓reduceIte, Nat.reduceEqDiff, Bool.false_eq_true, q_isc, q_mk, q_msk, zbX11_comeHome, q_pad, q_ent, q_get, q_put, q_nl, q_w, List.cons_append, List.nil_append, q_aks, q_als, Nat.reduceAdd, Nat.reduceLeDiff, Nat.zero_le, true_and, and_true, Option.some.injEq, Sum.inl.injEq, Sum.inr.injEq, true_or, or_true, and_self, q_sw]
    rw [t1, nI_eq (by omega) (by omega)]
    refine ⟨i_in (k := 1) (by decide) (by decide), fun _ => ?_, fun h => absurd h (by omega)⟩
    refine q_u1 (by omega) (c_mhas l S (n := told) (k := c) (by omega) (by omega)) ?_
    rw [bI_0]
    refine ⟨fun h => ?_, fun h => ?_⟩
    · refine hL (by simpa using h) (Y 0 0) 0 S (by omega) hR ?_ (Ke.rf S)
      exact hE
    · rw [LV, if_neg (by rw [h]; decide), nI_1]
      refine ⟨_, _, (by omega : 2 + k < 2 + (k + 1)), ih (c + 1) g P b S (by omega) (by rw [Nat.pow_succ]; omega) hP (fun k x hx => Nat.lt_succ_of_lt (hn k x hx)) hR hM hE, fun S3 g3 => g3⟩
