/-! Spots: who leaks -/
theorem c_isWithin (l : Launch) (S : qSt) (x a b : Int32) : q_Met q_mt l 0 k_X10_isWithin 1 [.inl x, .inl a, .inl b] S (fun r S' => r = some (.inl (bI (decide (a ≤ x ∧ x ≤ b)))) ∧ S' = S) := by
  refine q_meth zoX10_isWithin q_fos (Nat.le_of_ble_eq_true rfl) ?_
  intro AT step
  refine step 40 [] 0 _ _ _ ?_
  simp only [q_vcs, q_vcc, q_vl, q_vu, ↓reduceIte, Nat.reduceEqDiff, Bool.false_eq_true, q_isc, q_mk, q_msk, zbX10_isWithin, q_pad, q_ent, q_get, q_put, q_nl, q_w, List.cons_append, List.nil_append, q_aks, q_als, Nat.reduceAdd, Nat.reduceLeDiff, Nat.zero_le, true_and, and_true, Option.some.injEq, Sum.inl.injEq, Sum.inr.injEq, true_or, or_true, and_self, q_sw]
  unfold bI
  refine ⟨fun h => ?_, fun h => ⟨fun h2 => ?_, fun h2 => ?_⟩⟩
  · have : ¬ (a ≤ x ∧ x ≤ b) := fun q => absurd q.1 (Int32.not_le.mpr h)
    simp [this]
  · have : ¬ (a ≤ x ∧ x ≤ b) := fun q => absurd q.2 (Int32.not_le.mpr h2)
    simp [this]
  · have : (a ≤ x ∧ x ≤ b) := ⟨Int32.not_lt.mp h, Int32.not_lt.mp h2⟩
    simp [this]
/-- who stands on place i of twelve -/
def sto (Y : YD) (P : Nat → List Nat) (i : Nat) : Option Nat := onp Y P (i / 4) ((i % 4 : Nat) : Int)
def stn : Option Nat → Nat
  | none => 0
  | some c => 2 ^ c
def lk (o : Option Nat) (set : Nat) : Bool := match o with
  | none => false
  | some c => set.testBit c
def plb (Y : YD) (n : Nat) : Nat := bpr (fun i => decide (i % 4 < plc Y (i / 4))) n
/-- the Spots object i: lines, oil; looked at a stand -/
def LR (S : qSt) (i ln oi : Nat) : Prop := q_I S 16 i 0 = nI ln ∧ q_I S 16 i 1 = nI oi ∧ ln < 4096 ∧ oi < 4096
def SL (S : qSt) (i : Nat) (Y : YD) (P : Nat → List Nat) (ln oi : Nat) : Prop := LR S i ln oi ∧ q_I S 16 i 2 = nI (plb Y 12) ∧ q_I S 16 i 4 = nI (Y 1 0) ∧ ∀ k, k < 12 → q_I S 17 i k = nI (stn (sto Y P k))
abbrev Fs (i : Nat) : Nat → Nat → Prop := fun f j => j = i ∧ (f = 16 ∨ f = 17)
theorem sto_lt {Y : YD} {P : Nat → List Nat} (hP : st_ok P) {i c : Nat} (hi : i < 12) (h : sto Y P i = some c) : c < 6 := (st_row hP (show i / 4 < 3 by omega)).2 c (List.mem_reverse.mp (onw_mem h))
theorem stn_lt {Y : YD} {P : Nat → List Nat} (hP : st_ok P) {i : Nat} (hi : i < 12) : stn (sto Y P i) < 64 := by
  cases h : sto Y P i with
  | none => decide
  | some c => exact (show 2 ^ c < 2 ^ 6 from Nat.pow_lt_pow_right (by decide) (sto_lt hP hi h))
theorem c_lookAt (l : Launch) (S : qSt) {i y ln oi : Nat} {Y : YD} (hY : y_ok Y) (hR : YR S y Y) {P : Nat → List Nat} (hP : st_ok P) (hLR : LR S i ln oi) : q_Met q_mt l 3 k_X6_lookAt 0 [.inr (.inr (16, i)), .inr (.inr (3, y)), .inr (.inl (lN (es P)))] S (fun _ S' => SL S' i Y P ln oi ∧ fr (Fs i) S S') := by
  refine q_meth zoX6_lookAt q_fos (Nat.le_of_ble_eq_true rfl) ?_
  intro AT step
  have h6 := hY.2.1
  have hL : ∀ (k j : Nat) (S1 : qSt), j + k = 12 → fr (Fs i) S S1 → LR S1 i ln oi → q_I S1 16 i 2 = nI (plb Y j) → q_I S1 16 i 4 = nI (Y 1 0) → (∀ k, k < j → q_I S1 17 i k = nI (stn (sto Y P k))) → AT 1 [some (.inr (.inr (16, i))), some (.inr (.inr (3, y))), some (.inr (.inl (lN (es P)))), none, some (.inl (nI j)), none, none] [] S1 := by
    intro k
    induction k with
    | zero =>
      intro j S1 hj hf h1 h2 h3 h4
      refine step 40 [(1, [true, true, true, true, true, false, false])] 1 _ _ _ ?_
      simp only [q_vcs, q_vcc, q_vl, q_vu, ↓reduceIte, Nat.reduceEqDiff, Bool.false_eq_true, q_isc, q_mk, q_msk, zbX6_lookAt, q_pad, q_ent, q_get, q_put, q_nl, q_w, List.cons_append, List.nil_append, q_aks, q_als, Nat.reduceAdd, Nat.reduceLeDiff, Nat.zero_le, true_and, and_true, Option.some.injEq, Sum.inl.injEq, Sum.inr.injEq, true_or, or_true, and_self, q_sw]
      refine ⟨fun _ => ?_, fun h => absurd (by rw [show j = 12 by omega]; decide) h⟩
      rw [show j = 12 by omega] at h2 h4
      exact ⟨⟨h1, h2, h3, h4⟩, hf⟩
    | succ k ih =>
      intro j S1 hj hf h1 h2 h3 h4
      have hR1 := hR.fr hf (fun f a b h => by have := h.2; omega)
      refine step 40 [(1, [true, true, true, true, true, false, false])] 1 _ _ _ ?_
      simp only [q_vcs, q_vcc, q_vl, q_vu, ↓reduceIte, Nat.reduceEqDiff, Bool.false_eq_true, q_isc, q_mk, q_msk, zbX6_lookAt, q_pad, q_ent, q_get, q_put, q_nl, q_w, List.cons_append, List.nil_append, q_aks, q_als, Nat.reduceAdd, Nat.reduceLeDiff, Nat.zero_le, true_and, and_true, Option.some.injEq, Sum.inl.injEq, Sum.inr.injEq, true_or, or_true, and_self, q_sw]
      rw [show (12 : Int32) = nI 12 from rfl, show (4 : Int32) = nI 4 from rfl, nI_leI (by decide) (by omega), i_rem (by omega) (by decide) (by decide), i_div (by omega) (by decide) (by decide), nI_1]
      refine ⟨fun h => absurd h (by omega), fun _ => ⟨by decide, by decide, q_u1 (by decide) (c_carOn l S1 hY hR1 hP (k := j / 4) (by omega) (nI (j % 4))) ?_⟩⟩
      rw [nI_toInt (by omega)]
      have hstl := stn_lt (Y := Y) hP (show j < 12 by omega)
      have fin : ∀ v : Int32, v = nI (stn (sto Y P j)) → vp_in (nI j) 12 ∧ ¬ nI 4 = 0 ∧ ∃ d' post, d' < 3 ∧ q_Met q_mt l d' k_X9_placesOf 1 [.inr (.inr (3, y)), .inl (nI (j / 4))] (q_wI S1 17 i (nI j).toNatClampNeg v) post ∧ ∀ x S', post (some (.inl x)) S' → (x ≤ nI (j % 4) → AT 1 [some (.inr (.inr (16, i))), some (.inr (.inr (3, y))), some (.inr (.inl (lN (es P)))), none, some (.inl (nI (j + 1))), none, none] [] S') ∧ (¬ x ≤ nI (j % 4) → AT 1 [some (.inr (.inr (16, i))), some (.inr (.inr (3, y))), some (.inr (.inl (lN (es P)))), none, some (.inl (nI (j + 1))), none, none] [] (q_wI S' 16 i 2 (q_I S' 16 i 2 ||| (1 : Int32) <<< (nI j &&& 31)))) := by
        intro v hv
        subst hv
        refine ⟨i_in (by omega) (by decide), by decide, ?_⟩
        rw [i_cl (by omega)]
        have hfw : fr (Fs i) S1 (q_wI S1 17 i j (nI (stn (sto Y P j)))) := fr.wI fr.rf ⟨rfl, Or.inr rfl⟩
        have hf2 := hf.tr hfw
        have hR2 := hR.fr hf2 (fun f a b h => by have := h.2; omega)
        refine q_u1 (by decide) (c_placesOf l _ hY hR2 (k := j / 4) (by omega)) ?_
        have hp4 := plc_le hY (j / 4)
        have e0 : q_I (q_wI S1 17 i j (nI (stn (sto Y P j)))) 16 i = q_I S1 16 i := by
          funext c
          rw [q_I_wI, if_neg (fun q => by have := q.1; omega)]
        have h4' : ∀ k, k < j + 1 → q_I (q_wI S1 17 i j (nI (stn (sto Y P j)))) 17 i k = nI (stn (sto Y P k)) := fun k hk => by
          rw [q_I_wI]
          by_cases e : k = j
          · rw [if_pos ⟨rfl, rfl, e⟩, e]
          · rw [if_neg (fun q => e q.2.2)]
            exact h4 k (by omega)
        rw [e0, h2, nI_leI (by omega) (by omega), i_1sh _ (by omega), fa_or]
        refine ⟨fun h => ?_, fun h => ?_⟩
        · refine ih (j + 1) _ (by omega) hf2 ?_ ?_ ?_ h4'
          · unfold LR; rw [e0]; exact h1
          · rw [e0, h2]
            unfold plb
            rw [bpr, if_neg (by simp; omega), Nat.or_zero]
          · rw [e0]; exact h3
        · refine ih (j + 1) _ (by omega) (fr.wI hf2 ⟨rfl, Or.inl rfl⟩) ?_ ?_ ?_ (fun k hk => ?_)
          · unfold LR
            rw [q_I_wI, if_neg (by omega), e0, q_I_wI, if_neg (by omega), e0]; exact h1
          · rw [q_I_wI, if_pos ⟨rfl, rfl, rfl⟩]
            unfold plb
            rw [bpr, if_pos (by simp; omega)]
          · rw [q_I_wI, if_neg (by omega), e0]; exact h3
          · rw [q_I_wI, if_neg (by omega)]; exact h4' k hk
      have hc6 := fun c => sto_lt (Y := Y) hP (i := j) (c := c) (by omega)
      cases hs : onp Y P (j / 4) ((j % 4 : Nat) : Int) with
      | none =>
        refine ⟨fun h => absurd rfl h, fun _ => fin _ ?_⟩
        unfold sto
        rw [hs]
        rfl
      | some c =>
        have := hc6 c hs
        refine ⟨fun _ => fin _ ?_, fun h => absurd h (i_ne1 (by omega))⟩
        unfold sto
        rw [hs]
        exact i_1sh c (by omega)
  refine step 40 [(1, [true, true, true, true, true, false, false])] 0 _ _ _ ?_
  simp only [q_vcs, q_vcc, q_vl, q_vu, ↓reduceIte, Nat.reduceEqDiff, Bool.false_eq_true, q_isc, q_mk, q_msk, zbX6_lookAt, q_pad, q_ent, q_get, q_put, q_nl, q_w, List.cons_append, List.nil_append, q_aks, q_als, Nat.reduceAdd, Nat.reduceLeDiff, Nat.zero_le, true_and, and_true, Option.some.injEq, Sum.inl.injEq, Sum.inr.injEq, true_or, or_true, and_self, q_sw]
  have e4 : q_I S 3 y 1 = nI (Y 1 0) := hR.2.1
  rw [e4]
  refine hL 12 0 _ rfl (fr.wI (fr.wI fr.rf ⟨rfl, Or.inl rfl⟩) ⟨rfl, Or.inl rfl⟩) ?_ ?_ ?_ (fun k hk => absurd hk (Nat.not_lt_zero k))
  · unfold LR
    simp only [q_I_wI]
    simp
    exact hLR
  · simp [q_I_wI]
    rfl
  · simp [q_I_wI]
/-- a set that goes with all that was told -/
def isR (Y : YD) (P : Nat → List Nat) (ln oi set : Nat) : Bool := (List.range 12).all (fun i => !ln.testBit i || (lk (sto Y P i) set == oi.testBit i))
theorem lk_and {Y : YD} {P : Nat → List Nat} (hP : st_ok P) {i set : Nat} (hi : i < 12) (hs : set < 64) : nI set &&& nI (stn (sto Y P i)) = 0 ↔ lk (sto Y P i) set = false := by
  cases h : sto Y P i with
  | none =>
    rw [fa_and]
    simp [stn, lk]
    rfl
  | some c =>
    have := sto_lt hP hi h
    exact fa_bit (n := set) (j := c) (by omega)
theorem c_isRight (l : Launch) (S : qSt) {i ln oi set : Nat} {Y : YD} {P : Nat → List Nat} (hP : st_ok P) (hL : SL S i Y P ln oi) (hs : set < 64) : q_Met q_mt l 0 k_X6_isRight 1 [.inr (.inr (16, i)), .inl (nI set)] S (fun r S' => r = some (.inl (bI (isR Y P ln oi set))) ∧ S' = S) := by
  refine q_meth zoX6_isRight q_fos (Nat.le_of_ble_eq_true rfl) ?_
  intro AT step
  obtain ⟨⟨l0, l1, b0, b1⟩, l2, l3, l4⟩ := hL
  have hL : ∀ (k j : Nat), j + k = 12 → (List.range' j k).all (fun i => !ln.testBit i || (lk (sto Y P i) set == oi.testBit i)) = isR Y P ln oi set → AT 1 [some (.inr (.inr (16, i))), some (.inl (nI set)), some (.inl (nI j)), none] [] S := by
    intro k
    induction k with
    | zero =>
      intro j hj hh
      refine step 40 [(1, [true, true, true, false])] 1 _ _ _ ?_
      simp only [q_vcs, q_vcc, q_vl, q_vu, ↓reduceIte, Nat.reduceEqDiff, Bool.false_eq_true, q_isc, q_mk, q_msk, zbX6_isRight, q_pad, q_ent, q_get, q_put, q_nl, q_w, List.cons_append, List.nil_append, q_aks, q_als, Nat.reduceAdd, Nat.reduceLeDiff, Nat.zero_le, true_and, and_true, Option.some.injEq, Sum.inl.injEq, Sum.inr.injEq, true_or, or_true, and_self, q_sw]
      refine ⟨fun _ => ?_, fun h => absurd (by rw [show j = 12 by omega]; decide) h⟩
      rw [← hh]
      first | rfl | exact ⟨rfl, rfl⟩
    | succ k ih =>
      intro j hj hh
      rw [List.range'_succ, List.all_cons] at hh
      refine step 40 [(1, [true, true, true, false])] 1 _ _ _ ?_
      simp only [q_vcs, q_vcc, q_vl, q_vu, ↓reduceIte, Nat.reduceEqDiff, Bool.false_eq_true, q_isc, q_mk, q_msk, zbX6_isRight, q_pad, q_ent, q_get, q_put, q_nl, q_w, List.cons_append, List.nil_append, q_aks, q_als, Nat.reduceAdd, Nat.reduceLeDiff, Nat.zero_le, true_and, and_true, Option.some.injEq, Sum.inl.injEq, Sum.inr.injEq, true_or, or_true, and_self, q_sw]
      rw [show (12 : Int32) = nI 12 from rfl, nI_leI (by decide) (by omega), i_cl (by omega), l4 j (by omega), l0, l1, i_bit (by omega) (by omega), i_bit (by omega) (by omega), i_bit0, i_bit0, lk_and hP (by omega) hs, nI_1]
      refine ⟨fun h => absurd h (by omega), fun _ => ⟨i_in (by omega) (by decide), ?_⟩⟩
      have go : (!ln.testBit j || (lk (sto Y P j) set == oi.testBit j)) = true → AT 1 [some (.inr (.inr (16, i))), some (.inl (nI set)), some (.inl (nI (j + 1))), none] [] S := by
        intro h
        rw [h, Bool.true_and] at hh
        exact ih (j + 1) (by omega) hh
      have no : (!ln.testBit j || (lk (sto Y P j) set == oi.testBit j)) = false → 0 = bI (isR Y P ln oi set) := by
        intro h
        rw [h, Bool.false_and] at hh
        rw [← hh]
        rfl
      clear step ih hh l0 l1 l2 l3 l4
      cases hln : ln.testBit j <;> cases hlk : lk (sto Y P j) set <;> cases hoi : oi.testBit j <;> rw [hln, hlk, hoi] at go no <;> simp_all [bI]
  refine step 40 [(1, [true, true, true, false])] 0 _ _ _ ?_
  simp only [q_vcs, q_vcc, q_vl, q_vu, ↓reduceIte, Nat.reduceEqDiff, Bool.false_eq_true, q_isc, q_mk, q_msk, zbX6_isRight, q_pad, q_ent, q_get, q_put, q_nl, q_w, List.cons_append, List.nil_append, q_aks, q_als, Nat.reduceAdd, Nat.reduceLeDiff, Nat.zero_le, true_and, and_true, Option.some.injEq, Sum.inl.injEq, Sum.inr.injEq, true_or, or_true, and_self, q_sw]
  refine hL 12 0 rfl ?_
  rw [← List.range_eq_range']
  rfl
theorem bI_n (b : Bool) : bI b = 0 ↔ b = false := bI_0 b
theorem c_howMany (l : Launch) (S : qSt) {i ln oi : Nat} {Y : YD} (hY : y_ok Y) {P : Nat → List Nat} (hP : st_ok P) (hL : SL S i Y P ln oi) : q_Met q_mt l 1 k_X6_howManySets 1 [.inr (.inr (16, i))] S (fun r S' => r = some (.inl (nI (fa_cnt (isR Y P ln oi) (2 ^ Y 1 0)))) ∧ S' = S) := by
  refine q_meth zoX6_howManySets q_fos (Nat.le_of_ble_eq_true rfl) ?_
  intro AT step
  have h6 := hY.2.1
  have hp : 2 ^ Y 1 0 ≤ 64 := show 2 ^ Y 1 0 ≤ 2 ^ 6 from Nat.pow_le_pow_right (by decide) h6
  have hL2 : ∀ (k j : Nat), j + k = 2 ^ Y 1 0 → AT 1 [some (.inr (.inr (16, i))), some (.inl (nI (fa_cnt (isR Y P ln oi) j))), some (.inl (nI j))] [] S := by
    intro k
    induction k with
    | zero =>
      intro j hj
      refine step 40 [(1, [true, true, true])] 1 _ _ _ ?_
      simp only [q_vcs, q_vcc, q_vl, q_vu, ↓reduceIte, Nat.reduceEqDiff, Bool.false_eq_true, q_isc, q_mk, q_msk, zbX6_howManySets, q_pad, q_ent, q_get, q_put, q_nl, q_w, List.cons_append, List.nil_append, q_aks, q_als, Nat.reduceAdd, Nat.reduceLeDiff, Nat.zero_le, true_and, and_true, Option.some.injEq, Sum.inl.injEq, Sum.inr.injEq, true_or, or_true, and_self, q_sw]
      rw [hL.2.2.1, i_1sh _ (by omega), nI_leI (by omega) (by omega)]
      refine ⟨fun _ => ?_, fun h => absurd (by omega) h⟩
      rw [show j = 2 ^ Y 1 0 by omega]
    | succ k ih =>
      intro j hj
      have ih := ih (j + 1) (by omega)
      refine step 40 [(1, [true, true, true])] 1 _ _ _ ?_
      simp only [q_vcs, q_vcc, q_vl, q_vu, ↓reduceIte, Nat.reduceEqDiff, Bool.false_eq_true, q_isc, q_mk, q_msk, zbX6_howManySets, q_pad, q_ent, q_get, q_put, q_nl, q_w, List.cons_append, List.nil_append, q_aks, q_als, Nat.reduceAdd, Nat.reduceLeDiff, Nat.zero_le, true_and, and_true, Option.some.injEq, Sum.inl.injEq, Sum.inr.injEq, true_or, or_true, and_self, q_sw]
      rw [hL.2.2.1, i_1sh _ (by omega), nI_leI (by omega) (by omega), nI_1]
      refine ⟨fun h => absurd h (by omega), fun _ => q_u1 (by decide) (c_isRight l S hP hL (set := j) (by omega)) ?_⟩
      rw [bI_0]
      refine ⟨fun h => ?_, fun h => ?_⟩
      · rw [fa_cnt_no h] at ih
        rw [show (0 : Int32) = nI 0 from rfl, nI_add]
        exact ih
      · rw [fa_cnt_yes (by simpa using h)] at ih
        rw [nI_1]
        exact ih
  refine step 40 [(1, [true, true, true])] 0 _ _ _ ?_
  simp only [q_vcs, q_vcc, q_vl, q_vu, ↓reduceIte, Nat.reduceEqDiff, Bool.false_eq_true, q_isc, q_mk, q_msk, zbX6_howManySets, q_pad, q_ent, q_get, q_put, q_nl, q_w, List.cons_append, List.nil_append, q_aks, q_als, Nat.reduceAdd, Nat.reduceLeDiff, Nat.zero_le, true_and, and_true, Option.some.injEq, Sum.inl.injEq, Sum.inr.injEq, true_or, or_true, and_self, q_sw]
  exact hL2 (2 ^ Y 1 0) 0 (by omega)
def fst0 (p : Nat → Bool) (n : Nat) : Option Nat := (List.range n).find? p
theorem c_firstSet (l : Launch) (S : qSt) {i ln oi : Nat} {Y : YD} (hY : y_ok Y) {P : Nat → List Nat} (hP : st_ok P) (hL : SL S i Y P ln oi) : q_Met q_mt l 1 k_X6_firstSet 1 [.inr (.inr (16, i))] S (fun r S' => r = some (.inl (oI (fst0 (isR Y P ln oi) (2 ^ Y 1 0)))) ∧ S' = S) := by
  refine q_meth zoX6_firstSet q_fos (Nat.le_of_ble_eq_true rfl) ?_
  intro AT step
  have h6 := hY.2.1
  have hp : 2 ^ Y 1 0 ≤ 64 := show 2 ^ Y 1 0 ≤ 2 ^ 6 from Nat.pow_le_pow_right (by decide) h6
  have hL2 : ∀ (k j : Nat), j + k = 2 ^ Y 1 0 → (List.range' j k).find? (isR Y P ln oi) = fst0 (isR Y P ln oi) (2 ^ Y 1 0) → AT 1 [some (.inr (.inr (16, i))), some (.inl (nI j))] [] S := by
    intro k
    induction k with
    | zero =>
      intro j hj hh
      refine step 40 [(1, [true, true])] 1 _ _ _ ?_
      simp only [q_vcs, q_vcc, q_vl, q_vu, ↓reduceIte, Nat.reduceEqDiff, Bool.false_eq_true, q_isc, q_mk, q_msk, zbX6_firstSet, q_pad, q_ent, q_get, q_put, q_nl, q_w, List.cons_append, List.nil_append, q_aks, q_als, Nat.reduceAdd, Nat.reduceLeDiff, Nat.zero_le, true_and, and_true, Option.some.injEq, Sum.inl.injEq, Sum.inr.injEq, true_or, or_true, and_self, q_sw]
      rw [hL.2.2.1, i_1sh _ (by omega), nI_leI (by omega) (by omega)]
      refine ⟨fun _ => ?_, fun h => absurd (by omega) h⟩
      rw [← hh]
      first | rfl | exact ⟨rfl, rfl⟩
    | succ k ih =>
      intro j hj hh
      rw [List.range'_succ] at hh
      refine step 40 [(1, [true, true])] 1 _ _ _ ?_
      simp only [q_vcs, q_vcc, q_vl, q_vu, ↓reduceIte, Nat.reduceEqDiff, Bool.false_eq_true, q_isc, q_mk, q_msk, zbX6_firstSet, q_pad, q_ent, q_get, q_put, q_nl, q_w, List.cons_append, List.nil_append, q_aks, q_als, Nat.reduceAdd, Nat.reduceLeDiff, Nat.zero_le, true_and, and_true, Option.some.injEq, Sum.inl.injEq, Sum.inr.injEq, true_or, or_true, and_self, q_sw]
      rw [hL.2.2.1, i_1sh _ (by omega), nI_leI (by omega) (by omega), nI_1]
      refine ⟨fun h => absurd h (by omega), fun _ => q_u1 (by decide) (c_isRight l S hP hL (set := j) (by omega)) ?_⟩
      rw [bI_0]
      refine ⟨fun h => ?_, fun h => ?_⟩
      · refine ih (j + 1) (by omega) ?_
        rw [← hh, List.find?_cons_of_neg (by simp [h])]
      · rw [← hh, List.find?_cons_of_pos (by simpa using h)]
        first | rfl | exact ⟨rfl, rfl⟩
  refine step 40 [(1, [true, true])] 0 _ _ _ ?_
  simp only [q_vcs, q_vcc, q_vl, q_vu, ↓reduceIte, Nat.reduceEqDiff, Bool.false_eq_true, q_isc, q_mk, q_msk, zbX6_firstSet, q_pad, q_ent, q_get, q_put, q_nl, q_w, List.cons_append, List.nil_append, q_aks, q_als, Nat.reduceAdd, Nat.reduceLeDiff, Nat.zero_le, true_and, and_true, Option.some.injEq, Sum.inl.injEq, Sum.inr.injEq, true_or, or_true, and_self, q_sw]
  refine hL2 (2 ^ Y 1 0) 0 (by omega) ?_
  rw [← List.range_eq_range']
  rfl
/-- what all have in common -/
def cmn (p : Nat → Bool) : Nat → Option Nat
  | 0 => none
  | n + 1 => if p n then (match cmn p n with
    | none => some n
    | some a => some (a &&& n)) else cmn p n
theorem i_m1and (n : Nat) : (-1 : Int32) &&& nI n = nI n := by
  apply Int32.toBitVec_inj.mp
  rw [Int32.toBitVec_and, show (-1 : Int32).toBitVec = BitVec.allOnes 32 by decide, BitVec.allOnes_and]
theorem cmn_lt {p : Nat → Bool} : ∀ {n a : Nat}, n ≤ 64 → cmn p n = some a → a < 64
  | 0, a, _, h => by cases h
  | n + 1, a, hn, h => by
    unfold cmn at h
    split at h
    · cases e : cmn p n with
      | none => rw [e] at h; cases h; omega
      | some b =>
        rw [e] at h
        cases h
        exact Nat.lt_of_le_of_lt Nat.and_le_right (by omega)
    · exact cmn_lt (by omega) h
theorem c_inAll (l : Launch) (S : qSt) {i ln oi : Nat} {Y : YD} (hY : y_ok Y) {P : Nat → List Nat} (hP : st_ok P) (hL : SL S i Y P ln oi) : q_Met q_mt l 1 k_X6_carsInAllSets 1 [.inr (.inr (16, i))] S (fun r S' => r = some (.inl (nI ((cmn (isR Y P ln oi) (2 ^ Y 1 0)).getD 0))) ∧ S' = S) := by
  refine q_meth zoX6_carsInAllSets q_fos (Nat.le_of_ble_eq_true rfl) ?_
  intro AT step
  have h6 := hY.2.1
  have hp : 2 ^ Y 1 0 ≤ 64 := show 2 ^ Y 1 0 ≤ 2 ^ 6 from Nat.pow_le_pow_right (by decide) h6
  have hL2 : ∀ (k j : Nat), j + k = 2 ^ Y 1 0 → AT 1 [some (.inr (.inr (16, i))), some (.inl (oI (cmn (isR Y P ln oi) j))), some (.inl (nI j))] [] S := by
    intro k
    induction k with
    | zero =>
      intro j hj
      refine step 40 [(1, [true, true, true])] 1 _ _ _ ?_
      simp only [q_vcs, q_vcc, q_vl, q_vu, ↓reduceIte, Nat.reduceEqDiff, Bool.false_eq_true, q_isc, q_mk, q_msk, zbX6_carsInAllSets, q_pad, q_ent, q_get, q_put, q_nl, q_w, List.cons_append, List.nil_append, q_aks, q_als, Nat.reduceAdd, Nat.reduceLeDiff, Nat.zero_le, true_and, and_true, Option.some.injEq, Sum.inl.injEq, Sum.inr.injEq, true_or, or_true, and_self, q_sw]
      rw [hL.2.2.1, i_1sh _ (by omega), nI_leI (by omega) (by omega)]
      refine ⟨fun _ => ?_, fun h => absurd (by omega) h⟩
      rw [show j = 2 ^ Y 1 0 by omega]
      cases hc : cmn (isR Y P ln oi) (2 ^ Y 1 0) with
      | none => exact ⟨fun h => absurd rfl h, fun _ => by first | rfl | exact ⟨rfl, rfl⟩⟩
      | some a =>
        have := cmn_lt hp hc
        exact ⟨fun _ => by first | rfl | exact ⟨rfl, rfl⟩, fun h => absurd h (i_ne1 (by omega))⟩
    | succ k ih =>
      intro j hj
      have ih := ih (j + 1) (by omega)
      rw [cmn] at ih
      refine step 40 [(1, [true, true, true])] 1 _ _ _ ?_
      simp only [q_vcs, q_vcc, q_vl, q_vu, ↓reduceIte, Nat.reduceEqDiff, Bool.false_eq_true, q_isc, q_mk, q_msk, zbX6_carsInAllSets, q_pad, q_ent, q_get, q_put, q_nl, q_w, List.cons_append, List.nil_append, q_aks, q_als, Nat.reduceAdd, Nat.reduceLeDiff, Nat.zero_le, true_and, and_true, Option.some.injEq, Sum.inl.injEq, Sum.inr.injEq, true_or, or_true, and_self, q_sw]
      rw [hL.2.2.1, i_1sh _ (by omega), nI_leI (by omega) (by omega), nI_1]
      refine ⟨fun h => absurd h (by omega), fun _ => q_u1 (by decide) (c_isRight l S hP hL (set := j) (by omega)) ?_⟩
      rw [bI_0]
      refine ⟨fun h => ?_, fun h => ?_⟩
      · rw [if_neg (by simp [h])] at ih
        exact ih
      · rw [if_pos (by simpa using h)] at ih
        cases hc : cmn (isR Y P ln oi) j with
        | none =>
          rw [hc] at ih
          rw [show oI none = -1 from rfl, i_m1and]
          exact ih
        | some a =>
          rw [hc] at ih
          rw [show oI (some a) = nI a from rfl, fa_and]
          exact ih
  refine step 40 [(1, [true, true, true])] 0 _ _ _ ?_
  simp only [q_vcs, q_vcc, q_vl, q_vu, ↓reduceIte, Nat.reduceEqDiff, Bool.false_eq_true, q_isc, q_mk, q_msk, zbX6_carsInAllSets, q_pad, q_ent, q_get, q_put, q_nl, q_w, List.cons_append, List.nil_append, q_aks, q_als, Nat.reduceAdd, Nat.reduceLeDiff, Nat.zero_le, true_and, and_true, Option.some.injEq, Sum.inl.injEq, Sum.inr.injEq, true_or, or_true, and_self, q_sw]
  exact hL2 (2 ^ Y 1 0) 0 (by omega)
/-- sets left at the worst, if place k is looked at -/
def wrst (Y : YD) (P : Nat → List Nat) (ln oi k : Nat) : Nat := max (fa_cnt (fun s => isR Y P ln oi s && lk (sto Y P k) s) (2 ^ Y 1 0)) (fa_cnt (fun s => isR Y P ln oi s && !lk (sto Y P k) s) (2 ^ Y 1 0))
theorem c_worstAt (l : Launch) (S : qSt) {i ln oi k : Nat} {Y : YD} (hY : y_ok Y) {P : Nat → List Nat} (hP : st_ok P) (hL : SL S i Y P ln oi) (hk : k < 12) : q_Met q_mt l 1 k_X6_worstAt 1 [.inr (.inr (16, i)), .inl (nI k)] S (fun r S' => r = some (.inl (nI (wrst Y P ln oi k))) ∧ S' = S) := by
  refine q_meth zoX6_worstAt q_fos (Nat.le_of_ble_eq_true rfl) ?_
  intro AT step
  have h6 := hY.2.1
  have hp : 2 ^ Y 1 0 ≤ 64 := show 2 ^ Y 1 0 ≤ 2 ^ 6 from Nat.pow_le_pow_right (by decide) h6
  have hL2 : ∀ (m j : Nat), j + m = 2 ^ Y 1 0 → AT 1 [some (.inr (.inr (16, i))), some (.inl (nI k)), some (.inl (nI (fa_cnt (fun s => isR Y P ln oi s && lk (sto Y P k) s) j))), some (.inl (nI (fa_cnt (fun s => isR Y P ln oi s && !lk (sto Y P k) s) j))), some (.inl (nI j)), none] [] S := by
    intro m
    induction m with
    | zero =>
      intro j hj
      refine step 40 [(1, [true, true, true, true, true, false])] 1 _ _ _ ?_
      simp only [q_vcs, q_vcc, q_vl, q_vu, ↓reduceIte, Nat.reduceEqDiff, Bool.false_eq_true, q_isc, q_mk, q_msk, zbX6_worstAt, q_pad, q_ent, q_get, q_put, q_nl, q_w, List.cons_append, List.nil_append, q_aks, q_als, Nat.reduceAdd, Nat.reduceLeDiff, Nat.zero_le, true_and, and_true, Option.some.injEq, Sum.inl.injEq, Sum.inr.injEq, true_or, or_true, and_self, q_sw]
      rw [hL.2.2.1, i_1sh _ (by omega), nI_leI (by omega) (by omega)]
      refine ⟨fun _ => ⟨by decide, ?_⟩, fun h => absurd (by omega) h⟩
      have c1 := fa_cnt_le (fun s => isR Y P ln oi s && lk (sto Y P k) s) j
      have c2 := fa_cnt_le (fun s => isR Y P ln oi s && !lk (sto Y P k) s) j
      rw [i_max (by omega) (by omega), show j = 2 ^ Y 1 0 by omega]
      first | rfl | exact ⟨rfl, rfl⟩
    | succ m ih =>
      intro j hj
      have ih := ih (j + 1) (by omega)
      refine step 40 [(1, [true, true, true, true, true, false])] 1 _ _ _ ?_
      simp only [q_vcs, q_vcc, q_vl, q_vu, ↓reduceIte, Nat.reduceEqDiff, Bool.false_eq_true, q_isc, q_mk, q_msk, zbX6_worstAt, q_pad, q_ent, q_get, q_put, q_nl, q_w, List.cons_append, List.nil_append, q_aks, q_als, Nat.reduceAdd, Nat.reduceLeDiff, Nat.zero_le, true_and, and_true, Option.some.injEq, Sum.inl.injEq, Sum.inr.injEq, true_or, or_true, and_self, q_sw]
      rw [hL.2.2.1, i_1sh _ (by omega), nI_leI (by omega) (by omega), nI_1]
      refine ⟨fun h => absurd h (by omega), fun _ => q_u1 (by decide) (c_isRight l S hP hL (set := j) (by omega)) ?_⟩
      rw [bI_0]
      refine ⟨fun h => ?_, fun h => q_u1 (by decide) (c_isWithin l S (nI k) 0 11) ?_⟩
      · rw [fa_cnt_no (by simp [h]), fa_cnt_no (by simp [h])] at ih
        exact ih
      · have hin : (0 : Int32) ≤ nI k ∧ nI k ≤ 11 := ⟨nI_pos' (by omega), by rw [show (11 : Int32) = nI 11 from rfl, nI_leI (by omega) (by decide)]; omega⟩
        have h : isR Y P ln oi j = true := by simpa using h
        rw [bI_0, i_cl (by omega), hL.2.2.2 k hk, lk_and hP hk (by omega)]
        refine ⟨fun q => absurd q (by simp [hin]), fun _ => ⟨i_in (by omega) (by decide), fun q => ?_, fun q => ?_⟩⟩
        · rw [fa_cnt_no (by simp [q]), fa_cnt_yes (by simp [h, q])] at ih
          refine ⟨fun _ => ⟨fun _ => ?_, fun a => absurd trivial a⟩, fun a => absurd trivial a⟩
          rw [nI_1, show (0 : Int32) = nI 0 from rfl, nI_add]
          exact ih
        · rw [fa_cnt_yes (by simp [h, show lk (sto Y P k) j = true by simpa using q]), fa_cnt_no (by simp [show lk (sto Y P k) j = true by simpa using q])] at ih
          refine ⟨fun a => absurd a (by decide), fun _ => ⟨fun a => absurd a (by decide), fun _ => ?_⟩⟩
          rw [nI_1, show (0 : Int32) = nI 0 from rfl, nI_add]
          exact ih
  refine step 40 [(1, [true, true, true, true, true, false])] 0 _ _ _ ?_
  simp only [q_vcs, q_vcc, q_vl, q_vu, ↓reduceIte, Nat.reduceEqDiff, Bool.false_eq_true, q_isc, q_mk, q_msk, zbX6_worstAt, q_pad, q_ent, q_get, q_put, q_nl, q_w, List.cons_append, List.nil_append, q_aks, q_als, Nat.reduceAdd, Nat.reduceLeDiff, Nat.zero_le, true_and, and_true, Option.some.injEq, Sum.inl.injEq, Sum.inr.injEq, true_or, or_true, and_self, q_sw]
  exact hL2 (2 ^ Y 1 0) 0 (by omega)
/-- the place to look at next -/
def bpn (Y : YD) (P : Nat → List Nat) (ln oi : Nat) : Nat → Option Nat × Nat
  | 0 => (none, 0)
  | n + 1 => if n % 4 < plc Y (n / 4) ∧ ln.testBit n = false then (match bpn Y P ln oi n with
    | (none, _) => (some n, wrst Y P ln oi n)
    | (some b, v) => if wrst Y P ln oi n < v then (some n, wrst Y P ln oi n) else (some b, v)) else bpn Y P ln oi n
theorem i_andn12 : ∀ {a b k : Nat}, k < 12 → (nI a &&& (nI b ^^^ (-1)) &&& nI (2 ^ k) = 0 ↔ ¬ (a.testBit k = true ∧ b.testBit k = false)) := by
  intro a b k hk
  have e : nI a &&& (nI b ^^^ (-1)) &&& nI (2 ^ k) = nI ((a &&& (b ^^^ 4294967295)) &&& 2 ^ k) := by
    rw [show (-1 : Int32) = nI 4294967295 by decide, fb_xorI, fa_and, fa_and]
  rw [e, ← fa_and, fa_bit (by omega), Nat.testBit_and, Nat.testBit_xor]
  have : (4294967295 : Nat).testBit k = true := by
    rw [show (4294967295 : Nat) = 2 ^ 32 - 1 by decide, Nat.testBit_two_pow_sub_one]
    simp; omega
  rw [this]
  cases a.testBit k <;> cases b.testBit k <;> simp
theorem wrst_le (Y : YD) (P : Nat → List Nat) (ln oi k : Nat) : wrst Y P ln oi k ≤ 2 ^ Y 1 0 := by
  unfold wrst
  have c1 := fa_cnt_le (fun s => isR Y P ln oi s && lk (sto Y P k) s) (2 ^ Y 1 0)
  have c2 := fa_cnt_le (fun s => isR Y P ln oi s && !lk (sto Y P k) s) (2 ^ Y 1 0)
  omega
theorem bpn_lt (Y : YD) (P : Nat → List Nat) (ln oi : Nat) : ∀ n, (∀ b, (bpn Y P ln oi n).1 = some b → b < n) ∧ (bpn Y P ln oi n).2 ≤ 2 ^ Y 1 0
  | 0 => ⟨(fun b h => by cases h), Nat.zero_le _⟩
  | n + 1 => by
    have ih := bpn_lt Y P ln oi n
    have hw := wrst_le Y P ln oi n
    unfold bpn
    split
    · split
      · exact ⟨fun b h => by cases h; omega, hw⟩
      · rename_i b v e
        rw [e] at ih
        split
        · exact ⟨fun b h => by cases h; omega, hw⟩
        · exact ⟨fun b' h => by have := ih.1 b' h; omega, ih.2⟩
    · exact ⟨fun b h => by have := ih.1 b h; omega, ih.2⟩
theorem c_bestPlace (l : Launch) (S : qSt) {i ln oi : Nat} {Y : YD} (hY : y_ok Y) {P : Nat → List Nat} (hP : st_ok P) (hL : SL S i Y P ln oi) : q_Met q_mt l 2 k_X6_bestPlace 1 [.inr (.inr (16, i))] S (fun r S' => r = some (.inl (oI (bpn Y P ln oi 12).1)) ∧ S' = S) := by
  refine q_meth zoX6_bestPlace q_fos (Nat.le_of_ble_eq_true rfl) ?_
  intro AT step
  have h6 := hY.2.1
  have hp : 2 ^ Y 1 0 ≤ 64 := show 2 ^ Y 1 0 ≤ 2 ^ 6 from Nat.pow_le_pow_right (by decide) h6
  have hb0 := hL.1.2.2.1
  have hL2 : ∀ (m j : Nat), j + m = 12 → AT 1 [some (.inr (.inr (16, i))), some (.inl (oI (bpn Y P ln oi j).1)), some (.inl (nI (bpn Y P ln oi j).2)), some (.inl (nI j)), none] [] S := by
    intro m
    induction m with
    | zero =>
      intro j hj
      refine step 40 [(1, [true, true, true, true, false])] 1 _ _ _ ?_
      simp only [q_vcs, q_vcc, q_vl, q_vu, ↓reduceIte, Nat.reduceEqDiff, Bool.false_eq_true, q_isc, q_mk, q_msk, zbX6_bestPlace, q_pad, q_ent, q_get, q_put, q_nl, q_w, List.cons_append, List.nil_append, q_aks, q_als, Nat.reduceAdd, Nat.reduceLeDiff, Nat.zero_le, true_and, and_true, Option.some.injEq, Sum.inl.injEq, Sum.inr.injEq, true_or, or_true, and_self, q_sw]
      refine ⟨fun _ => ?_, fun h => absurd (by rw [show j = 12 by omega]; decide) h⟩
      rw [show j = 12 by omega]
    | succ m ih =>
      intro j hj
      have ih := ih (j + 1) (by omega)
      have hbl := bpn_lt Y P ln oi j
      have hw := wrst_le Y P ln oi j
      rw [bpn] at ih
      refine step 40 [(1, [true, true, true, true, false])] 1 _ _ _ ?_
      simp only [q_vcs, q_vcc, q_vl, q_vu, ↓reduceIte, Nat.reduceEqDiff, Bool.false_eq_true, q_isc, q_mk, q_msk, zbX6_bestPlace, q_pad, q_ent, q_get, q_put, q_nl, q_w, List.cons_append, List.nil_append, q_aks, q_als, Nat.reduceAdd, Nat.reduceLeDiff, Nat.zero_le, true_and, and_true, Option.some.injEq, Sum.inl.injEq, Sum.inr.injEq, true_or, or_true, and_self, q_sw]
      rw [show (12 : Int32) = nI 12 from rfl, nI_leI (by decide) (by omega), hL.2.1, hL.1.1, i_1sh _ (by omega), i_andn12 (by omega), nI_1]
      have ebit : (plb Y 12).testBit j = decide (j % 4 < plc Y (j / 4)) := by
        unfold plb
        rw [bpr_bit]
        simp; omega
      rw [ebit]
      refine ⟨fun h => absurd h (by omega), fun _ => ⟨fun h => q_u1 (by decide) (c_worstAt l S hY hP hL (k := j) (by omega)) ?_, fun h => ?_⟩⟩
      · rw [if_pos (by simpa using h)] at ih
        cases hbb : bpn Y P ln oi j with
        | mk b v =>
          rw [hbb] at ih hbl
          dsimp only at ih hbl ⊢
          cases b with
          | none => exact ⟨fun _ => ih, fun a => absurd rfl a⟩
          | some b =>
            dsimp only at ih
            have := hbl.1 b rfl
            have := hbl.2
            rw [nI_leI (by omega) (by omega)]
            refine ⟨fun a => absurd a (i_ne1 (by omega)), fun _ => ⟨fun a => ?_, fun a => ?_⟩⟩
            · rw [if_neg (by omega)] at ih
              exact ih
            · rw [if_pos (by omega)] at ih
              exact ih
      · rw [if_neg (by simpa using h)] at ih
        exact ih
  refine step 40 [(1, [true, true, true, true, false])] 0 _ _ _ ?_
  simp only [q_vcs, q_vcc, q_vl, q_vu, ↓reduceIte, Nat.reduceEqDiff, Bool.false_eq_true, q_isc, q_mk, q_msk, zbX6_bestPlace, q_pad, q_ent, q_get, q_put, q_nl, q_w, List.cons_append, List.nil_append, q_aks, q_als, Nat.reduceAdd, Nat.reduceLeDiff, Nat.zero_le, true_and, and_true, Option.some.injEq, Sum.inl.injEq, Sum.inr.injEq, true_or, or_true, and_self, q_sw]
  exact hL2 12 0 rfl
