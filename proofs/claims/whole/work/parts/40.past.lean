/-! Position, Past -/
/-- a position: how they stand, seconds, moves of each car -/
abbrev PV : Type := (Nat → List Nat) × Nat × (Nat → Nat)
def PR (S : qSt) (r : Nat) (V : PV) : Prop := q_L S 26 r 0 = lN (es V.1) ∧ q_I S 26 r 1 = nI V.2.1 ∧ ∀ c, c < 6 → q_I S 27 r c = nI (V.2.2 c)
abbrev Fp (a : Nat) : Nat → Nat → Prop := fun f i => i = a ∧ (f = 26 ∨ f = 27)
theorem PR.fr {F : Nat → Nat → Prop} {S S' : qSt} {r : Nat} {V : PV} (h : PR S r V) (hf : fr F S S') (h1 : ¬ F 26 r) (h2 : ¬ F 27 r) : PR S' r V := by
  unfold PR at *
  rw [(hf 26 r h1).1, (hf 26 r h1).2.1, (hf 27 r h2).1]
  exact h
theorem fr.cp {F : Nat → Nat → Prop} {S S1 : qSt} (h : fr F S S1) {i j : Nat} (hF : F 27 j) : fr F S (q_cp6 S1 i j) := fun g k hn => by
  have hne : ¬ (g = 27 ∧ k = j) := fun e => hn (by rw [e.1, e.2]; exact hF)
  refine ⟨Eq.trans ?_ (h g k hn).1, (h g k hn).2.1, (h g k hn).2.2⟩
  funext c
  show (if g = 27 ∧ k = j ∧ c < 6 then _ else _) = _
  rw [if_neg (fun q => hne ⟨q.1, q.2.1⟩)]
  rfl
theorem c_pbecome (l : Launch) (S : qSt) {a b : Nat} (hab : ¬ b = a) {V : PV} (hV : PR S b V) : q_Met q_mt l 1 k_X3_become 0 [.inr (.inr (26, a)), .inr (.inr (26, b))] S (fun _ S' => PR S' a V ∧ fr (Fp a) S S') := by
  refine q_meth zoX3_become q_fos (Nat.le_of_ble_eq_true rfl) ?_
  intro AT step
  refine step 40 [] 0 _ _ _ ?_
  simp only [q_vcs, q_vcc, q_vl, q_vu, ↓reduceIte, Nat.reduceEqDiff, Bool.false_eq_true, q_isc, q_mk, q_msk, zbX3_become, q_pad, q_ent, q_get, q_put, q_nl, q_w, List.cons_append, List.nil_append, q_aks, q_als, Nat.reduceAdd, Nat.reduceLeDiff, Nat.zero_le, true_and, and_true, Option.some.injEq, Sum.inl.injEq, Sum.inr.injEq, true_or, or_true, and_self, q_sw]
  refine ⟨hab, by decide, ?_, ?_⟩
  · refine ⟨?_, ?_, fun c hc => ?_⟩
    · show q_L (q_wL S 26 a 0 _) 26 a 0 = _
      rw [q_L_wL, if_pos ⟨rfl, rfl, rfl⟩]
      exact hV.1
    · show q_I (q_wI _ 26 a 1 _) 26 a 1 = _
      rw [q_I_wI, if_pos ⟨rfl, rfl, rfl⟩]
      exact hV.2.1
    · show (if (27 : Nat) = 27 ∧ a = a ∧ c < 6 then _ else _) = _
      rw [if_pos ⟨rfl, rfl, hc⟩]
      exact hV.2.2 c hc
  · exact fr.cp (fr.wI (fr.wL fr.rf ⟨rfl, Or.inl rfl⟩) ⟨rfl, Or.inl rfl⟩) ⟨rfl, Or.inr rfl⟩
theorem l_cmp {a b : Nat} (ha : a < 2 ^ 63) (hb : b < 2 ^ 63) : lg_cmp (lN a) (lN b) = 0 ↔ a = b := by
  unfold lg_cmp
  by_cases h1 : lN a > lN b
  · rw [if_pos h1]
    have := (pk_lLT hb ha).mp h1
    constructor
    · intro q; cases q
    · intro q; omega
  · rw [if_neg h1]
    have h2 : ¬ b < a := fun q => h1 ((pk_lLT hb ha).mpr q)
    by_cases h3 : lN a < lN b
    · have := (pk_lLT ha hb).mp h3
      rw [if_neg (fun q => by have := (pk_lEQ ha hb).mp q; omega)]
      constructor
      · intro q; cases q
      · intro q; omega
    · have : ¬ a < b := fun q => h3 ((pk_lLT ha hb).mpr q)
      have e : a = b := by omega
      subst e
      simp
theorem c_standsAs (l : Launch) (S : qSt) {r : Nat} {V : PV} (hV : PR S r V) (hP : st_ok V.1) {P1 : Nat → List Nat} (h1 : st_ok P1) : q_Met q_mt l 1 k_X3_standsAs 1 [.inr (.inr (26, r)), .inr (.inl (lN (es P1)))] S (fun v S' => v = some (.inl (bI (decide (es P1 ≠ es V.1)))) ∧ S' = q_wL S 26 r 0 (lN (es P1))) := by
  refine q_meth zoX3_standsAs q_fos (Nat.le_of_ble_eq_true rfl) ?_
  intro AT step
  refine step 40 [] 0 _ _ _ ?_
  simp only [q_vcs, q_vcc, q_vl, q_vu, ↓reduceIte, Nat.reduceEqDiff, Bool.false_eq_true, q_isc, q_mk, q_msk, zbX3_standsAs, q_pad, q_ent, q_get, q_put, q_nl, q_w, List.cons_append, List.nil_append, q_aks, q_als, Nat.reduceAdd, Nat.reduceLeDiff, Nat.zero_le, true_and, and_true, Option.some.injEq, Sum.inl.injEq, Sum.inr.injEq, true_or, or_true, and_self, q_sw]
  have a1 := es_lt hP
  have a2 := es_lt h1
  rw [hV.1, l_cmp (by omega) (by omega)]
  unfold bI
  refine ⟨fun h => by simp [h], fun h => by simp [h]⟩
theorem c_addMove (l : Launch) (S : qSt) {r c : Nat} {V : PV} (hV : PR S r V) (hc : c < 6) : q_Met q_mt l 1 k_X3_addMove 0 [.inr (.inr (26, r)), .inl (nI c)] S (fun _ S' => S' = q_wI S 27 r c (nI (V.2.2 c + 1))) := by
  refine q_meth zoX3_addMove q_fos (Nat.le_of_ble_eq_true rfl) ?_
  intro AT step
  refine step 40 [] 0 _ _ _ ?_
  simp only [q_vcs, q_vcc, q_vl, q_vu, ↓reduceIte, Nat.reduceEqDiff, Bool.false_eq_true, q_isc, q_mk, q_msk, zbX3_addMove, q_pad, q_ent, q_get, q_put, q_nl, q_w, List.cons_append, List.nil_append, q_aks, q_als, Nat.reduceAdd, Nat.reduceLeDiff, Nat.zero_le, true_and, and_true, Option.some.injEq, Sum.inl.injEq, Sum.inr.injEq, true_or, or_true, and_self, q_sw]
  rw [i_cl (by omega), hV.2.2 c hc, nI_1]
  refine ⟨fun h => absurd h (nI_pos (by omega)), fun _ => ⟨by decide, fun h => ?_, fun _ => ⟨i_in hc (by decide), i_in hc (by decide), rfl⟩⟩⟩
  rw [show Int32.ofNat 6 = nI 6 from rfl, nI_leI (by omega) (by omega)] at h
  omega
theorem c_movesOf (l : Launch) (S : qSt) {r c : Nat} {V : PV} (hV : PR S r V) (hc : c < 6) : q_Met q_mt l 1 k_X3_movesOf 1 [.inr (.inr (26, r)), .inl (nI c)] S (fun v S' => v = some (.inl (nI (V.2.2 c))) ∧ S' = S) := by
  refine q_meth zoX3_movesOf q_fos (Nat.le_of_ble_eq_true rfl) ?_
  intro AT step
  refine step 40 [] 0 _ _ _ ?_
  simp only [q_vcs, q_vcc, q_vl, q_vu, ↓reduceIte, Nat.reduceEqDiff, Bool.false_eq_true, q_isc, q_mk, q_msk, zbX3_movesOf, q_pad, q_ent, q_get, q_put, q_nl, q_w, List.cons_append, List.nil_append, q_aks, q_als, Nat.reduceAdd, Nat.reduceLeDiff, Nat.zero_le, true_and, and_true, Option.some.injEq, Sum.inl.injEq, Sum.inr.injEq, true_or, or_true, and_self, q_sw]
  rw [i_cl (by omega), hV.2.2 c hc]
  refine ⟨fun h => absurd h (nI_pos (by omega)), fun _ => ⟨by decide, fun h => ?_, fun _ => ⟨i_in hc (by decide), rfl⟩⟩⟩
  rw [show Int32.ofNat 6 = nI 6 from rfl, nI_leI (by omega) (by omega)] at h
  omega
theorem c_allMoves (l : Launch) (S : qSt) {r : Nat} {V : PV} (hV : PR S r V) : q_Met q_mt l 1 k_X3_allMoves 1 [.inr (.inr (26, r))] S (fun v S' => v = some (.inl (nI (fb_sm V.2.2 6))) ∧ S' = S) := by
  refine q_meth zoX3_allMoves q_fos (Nat.le_of_ble_eq_true rfl) ?_
  intro AT step
  have hL : ∀ (k i : Nat), i + k = 6 → AT 1 [some (.inr (.inr (26, r))), some (.inl (nI (fb_sm V.2.2 i))), some (.inl (nI i))] [] S := by
    intro k
    induction k with
    | zero =>
      intro i hi
      refine step 40 [(1, [true, true, true])] 1 _ _ _ ?_
      simp only [q_vcs, q_vcc, q_vl, q_vu, ↓reduceIte, Nat.reduceEqDiff, Bool.false_eq_true, q_isc, q_mk, q_msk, zbX3_allMoves, q_pad, q_ent, q_get, q_put, q_nl, q_w, List.cons_append, List.nil_append, q_aks, q_als, Nat.reduceAdd, Nat.reduceLeDiff, Nat.zero_le, true_and, and_true, Option.some.injEq, Sum.inl.injEq, Sum.inr.injEq, true_or, or_true, and_self, q_sw]
      refine ⟨by decide, fun _ => ?_, fun h => absurd (by rw [show i = 6 by omega]; decide) h⟩
      rw [show i = 6 by omega]
    | succ k ih =>
      intro i hi
      refine step 40 [(1, [true, true, true])] 1 _ _ _ ?_
      simp only [q_vcs, q_vcc, q_vl, q_vu, ↓reduceIte, Nat.reduceEqDiff, Bool.false_eq_true, q_isc, q_mk, q_msk, zbX3_allMoves, q_pad, q_ent, q_get, q_put, q_nl, q_w, List.cons_append, List.nil_append, q_aks, q_als, Nat.reduceAdd, Nat.reduceLeDiff, Nat.zero_le, true_and, and_true, Option.some.injEq, Sum.inl.injEq, Sum.inr.injEq, true_or, or_true, and_self, q_sw]
      rw [i_cl (by omega), hV.2.2 i (by omega), nI_1, nI_add, ← fb_sm_succ]
      refine ⟨by decide, fun h => ?_, fun _ => ⟨i_in (by omega) (by decide), ih (i + 1) (by omega)⟩⟩
      rw [show Int32.ofNat 6 = nI 6 from rfl, nI_leI (by omega) (by omega)] at h
      omega
  refine step 40 [(1, [true, true, true])] 0 _ _ _ ?_
  simp only [q_vcs, q_vcc, q_vl, q_vu, ↓reduceIte, Nat.reduceEqDiff, Bool.false_eq_true, q_isc, q_mk, q_msk, zbX3_allMoves, q_pad, q_ent, q_get, q_put, q_nl, q_w, List.cons_append, List.nil_append, q_aks, q_als, Nat.reduceAdd, Nat.reduceLeDiff, Nat.zero_le, true_and, and_true, Option.some.injEq, Sum.inl.injEq, Sum.inr.injEq, true_or, or_true, and_self, q_sw]
  exact hL 6 0 rfl
def lvl (m : Nat → Nat) (cars b : Nat) : Nat := fb_sm (fun c => if cars.testBit c then min b (m c) else 0) 6
theorem i_min {a b : Nat} (ha : a < 2 ^ 31) (hb : b < 2 ^ 31) : (if nI b < nI a then nI b else nI a) = nI (min a b) := by
  by_cases h : b < a
  · rw [if_pos ((nI_ltI hb ha).mpr h), Nat.min_eq_right (by omega)]
  · rw [if_neg (fun q => h ((nI_ltI hb ha).mp q)), Nat.min_eq_left (by omega)]
theorem i_max {a b : Nat} (ha : a < 2 ^ 31) (hb : b < 2 ^ 31) : (if nI a < nI b then nI b else nI a) = nI (max a b) := by
  by_cases h : a < b
  · rw [if_pos ((nI_ltI ha hb).mpr h), Nat.max_eq_right (by omega)]
  · rw [if_neg (fun q => h ((nI_ltI ha hb).mp q)), Nat.max_eq_left (by omega)]
theorem c_levelled (l : Launch) (S : qSt) {r cars b : Nat} {V : PV} (hV : PR S r V) (hm : ∀ c, c < 6 → V.2.2 c < 2 ^ 31) (hc : cars < 64) (hb : b < 2 ^ 31) : q_Met q_mt l 1 k_X3_levelled 1 [.inr (.inr (26, r)), .inl (nI cars), .inl (nI b)] S (fun v S' => v = some (.inl (nI (lvl V.2.2 cars b))) ∧ S' = S) := by
  refine q_meth zoX3_levelled q_fos (Nat.le_of_ble_eq_true rfl) ?_
  intro AT step
  have hL : ∀ (k i : Nat), i + k = 6 → AT 1 [some (.inr (.inr (26, r))), some (.inl (nI cars)), some (.inl (nI b)), some (.inl (nI (fb_sm (fun c => if cars.testBit c then min b (V.2.2 c) else 0) i))), some (.inl (nI i))] [] S := by
    intro k
    induction k with
    | zero =>
      intro i hi
      refine step 40 [(1, [true, true, true, true, true])] 1 _ _ _ ?_
      simp only [q_vcs, q_vcc, q_vl, q_vu, ↓reduceIte, Nat.reduceEqDiff, Bool.false_eq_true, q_isc, q_mk, q_msk, zbX3_levelled, q_pad, q_ent, q_get, q_put, q_nl, q_w, List.cons_append, List.nil_append, q_aks, q_als, Nat.reduceAdd, Nat.reduceLeDiff, Nat.zero_le, true_and, and_true, Option.some.injEq, Sum.inl.injEq, Sum.inr.injEq, true_or, or_true, and_self, q_sw]
      refine ⟨by decide, fun _ => ?_, fun h => absurd (by rw [show i = 6 by omega]; decide) h⟩
      rw [show i = 6 by omega]
      rfl
    | succ k ih =>
      intro i hi
      have ih := ih (i + 1) (by omega)
      rw [fb_sm_succ] at ih
      refine step 40 [(1, [true, true, true, true, true])] 1 _ _ _ ?_
      simp only [q_vcs, q_vcc, q_vl, q_vu, ↓reduceIte, Nat.reduceEqDiff, Bool.false_eq_true, q_isc, q_mk, q_msk, zbX3_levelled, q_pad, q_ent, q_get, q_put, q_nl, q_w, List.cons_append, List.nil_append, q_aks, q_als, Nat.reduceAdd, Nat.reduceLeDiff, Nat.zero_le, true_and, and_true, Option.some.injEq, Sum.inl.injEq, Sum.inr.injEq, true_or, or_true, and_self, q_sw]
      rw [i_cl (by omega), hV.2.2 i (by omega), nI_1, i_bit (by omega) (by omega), i_bit0, i_min hb (hm i (by omega)), nI_add]
      refine ⟨by decide, fun h => ?_, fun _ => ⟨fun h => ⟨i_in (by omega) (by decide), ?_⟩, fun h => ?_⟩⟩
      · rw [show Int32.ofNat 6 = nI 6 from rfl, nI_leI (by omega) (by omega)] at h
        omega
      · rw [if_pos (by simpa using h)] at ih
        exact ⟨by decide, ih⟩
      · rw [if_neg (by simp [show cars.testBit i = false by simpa using h])] at ih
        rw [show (0 : Int32) = nI 0 from rfl, nI_add]
        exact ih
  refine step 40 [(1, [true, true, true, true, true])] 0 _ _ _ ?_
  simp only [q_vcs, q_vcc, q_vl, q_vu, ↓reduceIte, Nat.reduceEqDiff, Bool.false_eq_true, q_isc, q_mk, q_msk, zbX3_levelled, q_pad, q_ent, q_get, q_put, q_nl, q_w, List.cons_append, List.nil_append, q_aks, q_als, Nat.reduceAdd, Nat.reduceLeDiff, Nat.zero_le, true_and, and_true, Option.some.injEq, Sum.inl.injEq, Sum.inr.injEq, true_or, or_true, and_self, q_sw]
  exact hL 6 0 rfl
/-- a past: how many works, the positions -/
def HR (S : qSt) (p w : Nat) (h : Nat → PV) : Prop := q_I S 24 p 1 = nI w ∧ w ≤ 16 ∧ ∀ i, i ≤ w → PR S (17 * p + i) (h i)
abbrev Fh (p : Nat) : Nat → Nat → Prop := fun f i => (f = 24 ∧ i = p) ∨ ((f = 26 ∨ f = 27) ∧ i / 17 = p)
theorem HR.fr {F : Nat → Nat → Prop} {S S' : qSt} {p w : Nat} {h : Nat → PV} (hh : HR S p w h) (hf : fr F S S') (h1 : ¬ F 24 p) (h2 : ∀ i, i < 17 → ¬ F 26 (17 * p + i) ∧ ¬ F 27 (17 * p + i)) : HR S' p w h := by
  refine ⟨by rw [(hf 24 p h1).1]; exact hh.1, hh.2.1, fun i hi => ?_⟩
  have := h2 i (by have := hh.2.1; omega)
  exact (hh.2.2 i hi).fr hf this.1 this.2
theorem c_latest (l : Launch) (S : qSt) {p w : Nat} {h : Nat → PV} (hh : HR S p w h) : q_Met q_mt l 1 k_X2_latest 29 [.inr (.inr (24, p))] S (fun v S' => v = some (.inr (.inr (26, 17 * p + w))) ∧ S' = S) := by
  refine q_meth zoX2_latest q_fos (Nat.le_of_ble_eq_true rfl) ?_
  intro AT step
  refine step 40 [] 0 _ _ _ ?_
  simp only [q_vcs, q_vcc, q_vl, q_vu, ↓reduceIte, Nat.reduceEqDiff, Bool.false_eq_true, q_isc, q_mk, q_msk, zbX2_latest, q_pad, q_ent, q_get, q_put, q_nl, q_w, List.cons_append, List.nil_append, q_aks, q_als, Nat.reduceAdd, Nat.reduceLeDiff, Nat.zero_le, true_and, and_true, Option.some.injEq, Sum.inl.injEq, Sum.inr.injEq, true_or, or_true, and_self, q_sw]
  have h16 := hh.2.1
  rw [hh.1, show (16 : Int32) = nI 16 from rfl, i_min (by omega) (by decide), Nat.min_eq_left h16, show (0 : Int32) = nI 0 from rfl, i_max (by decide) (by omega), Nat.max_eq_right (Nat.zero_le w), i_cl (by omega)]
  exact ⟨by decide, by decide, i_in (by omega) (by decide), rfl⟩
theorem c_begin (l : Launch) (S : qSt) {p w : Nat} {h : Nat → PV} (hh : HR S p w h) (hw : w < 16) : q_Met q_mt l 2 k_X2_begin 0 [.inr (.inr (24, p))] S (fun _ S' => HR S' p (w + 1) (fun i => if i ≤ w then h i else h w) ∧ fr (Fh p) S S') := by
  refine q_meth zoX2_begin q_fos (Nat.le_of_ble_eq_true rfl) ?_
  intro AT step
  refine step 40 [] 0 _ _ _ ?_
  simp only [q_vcs, q_vcc, q_vl, q_vu, ↓reduceIte, Nat.reduceEqDiff, Bool.false_eq_true, q_isc, q_mk, q_msk, zbX2_begin, q_pad, q_ent, q_get, q_put, q_nl, q_w, List.cons_append, List.nil_append, q_aks, q_als, Nat.reduceAdd, Nat.reduceLeDiff, Nat.zero_le, true_and, and_true, Option.some.injEq, Sum.inl.injEq, Sum.inr.injEq, true_or, or_true, and_self, q_sw]
  rw [hh.1, show (16 : Int32) = nI 16 from rfl, nI_leI (by decide) (by omega), nI_1, i_cl (by omega), i_cl (by omega)]
  refine ⟨fun h => absurd h (by omega), fun _ => ⟨i_in (by omega) (by decide), i_in (by omega) (by decide), ?_⟩⟩
  refine ⟨_, _, (by decide : 1 < 2), c_pbecome l S (a := 17 * p + (w + 1)) (b := 17 * p + w) (by omega) (hh.2.2 w (Nat.le_refl w)), fun S1 h1 => ?_⟩
  have e24 : q_I S1 24 p = q_I S 24 p := (h1.2 24 p (fun q => by have := q.2; omega)).1
  have e1 : q_I S1 24 p 1 = nI w := by rw [e24]; exact hh.1
  rw [e1, nI_1]
  refine ⟨⟨by rw [q_I_wI, if_pos ⟨rfl, rfl, rfl⟩], by omega, fun i hi => ?_⟩, ?_⟩
  · have hw : fr (fun f i => f = 24 ∧ i = p) S1 (q_wI S1 24 p 1 (nI (w + 1))) := fr.wI fr.rf ⟨rfl, rfl⟩
    dsimp only
    by_cases hiw : i ≤ w
    · rw [if_pos hiw]
      exact ((hh.2.2 i hiw).fr h1.2 (fun q => by have := q.1; omega) (fun q => by have := q.1; omega)).fr hw (fun q => by have := q.1; omega) (fun q => by have := q.1; omega)
    · rw [if_neg hiw, show i = w + 1 by omega]
      exact h1.1.fr hw (fun q => by have := q.1; omega) (fun q => by have := q.1; omega)
  · refine fr.wI (h1.2.mn (fun f i q => Or.inr ⟨q.2, ?_⟩)) (Or.inl ⟨rfl, rfl⟩)
    rw [q.1]
    omega
theorem c_hbecome (l : Launch) (S : qSt) {a b w : Nat} (hab : a ≠ b) {h : Nat → PV} (hh : HR S b w h) : q_Met q_mt l 2 k_X2_become 0 [.inr (.inr (24, a)), .inr (.inr (24, b))] S (fun _ S' => HR S' a w h ∧ fr (Fh a) S S') := by
  refine q_meth zoX2_become q_fos (Nat.le_of_ble_eq_true rfl) ?_
  intro AT step
  have h16 := hh.2.1
  have hL : ∀ (k i : Nat) (S1 : qSt), i + k = w + 1 → fr (Fh a) S S1 → q_I S1 24 a 1 = nI w → (∀ j, j < i → PR S1 (17 * a + j) (h j)) → AT 1 [some (.inr (.inr (24, a))), some (.inr (.inr (24, b))), some (.inl (nI i))] [] S1 := by
    intro k
    induction k with
    | zero =>
      intro i S1 hi hf he hp
      refine step 40 [(1, [true, true, true])] 1 _ _ _ ?_
      simp only [q_vcs, q_vcc, q_vl, q_vu, ↓reduceIte, Nat.reduceEqDiff, Bool.false_eq_true, q_isc, q_mk, q_msk, zbX2_become, q_pad, q_ent, q_get, q_put, q_nl, q_w, List.cons_append, List.nil_append, q_aks, q_als, Nat.reduceAdd, Nat.reduceLeDiff, Nat.zero_le, true_and, and_true, Option.some.injEq, Sum.inl.injEq, Sum.inr.injEq, true_or, or_true, and_self, q_sw]
      rw [he, nI_ltI (by omega) (by omega)]
      exact ⟨fun _ => ⟨⟨he, h16, fun j hj => hp j (by omega)⟩, hf⟩, fun h => absurd (by omega) h⟩
    | succ k ih =>
      intro i S1 hi hf he hp
      refine step 40 [(1, [true, true, true])] 1 _ _ _ ?_
      simp only [q_vcs, q_vcc, q_vl, q_vu, ↓reduceIte, Nat.reduceEqDiff, Bool.false_eq_true, q_isc, q_mk, q_msk, zbX2_become, q_pad, q_ent, q_get, q_put, q_nl, q_w, List.cons_append, List.nil_append, q_aks, q_als, Nat.reduceAdd, Nat.reduceLeDiff, Nat.zero_le, true_and, and_true, Option.some.injEq, Sum.inl.injEq, Sum.inr.injEq, true_or, or_true, and_self, q_sw]
      rw [he, nI_ltI (by omega) (by omega), i_cl (by omega), nI_1]
      refine ⟨fun h => absurd h (by omega), fun _ => ⟨by decide, fun h => ?_, fun _ => ⟨i_in (by omega) (by decide), i_in (by omega) (by decide), ?_⟩⟩⟩
      · rw [show Int32.ofNat 17 = nI 17 from rfl, nI_leI (by omega) (by omega)] at h
        omega
      · have hb := hh.fr hf (fun q => by rcases q with q | q <;> omega) (fun j hj => ⟨fun q => by rcases q with q | q <;> omega, fun q => by rcases q with q | q <;> omega⟩)
        refine ⟨_, _, (by decide : 1 < 2), c_pbecome l S1 (a := 17 * a + i) (b := 17 * b + i) (by omega) (hb.2.2 i (by omega)), fun S2 h2 => ?_⟩
        refine ih (i + 1) S2 (by omega) (hf.tr (h2.2.mn (fun f j q => Or.inr ⟨q.2, ?_⟩))) ?_ (fun j hj => ?_)
        · rw [q.1]; omega
        · rw [(h2.2 24 a (fun q => by have := q.2; omega)).1]; exact he
        · by_cases e : j = i
          · rw [e]; exact h2.1
          · exact (hp j (by omega)).fr h2.2 (fun q => by have := q.1; omega) (fun q => by have := q.1; omega)
  refine step 40 [(1, [true, true, true])] 0 _ _ _ ?_
  simp only [q_vcs, q_vcc, q_vl, q_vu, ↓reduceIte, Nat.reduceEqDiff, Bool.false_eq_true, q_isc, q_mk, q_msk, zbX2_become, q_pad, q_ent, q_get, q_put, q_nl, q_w, List.cons_append, List.nil_append, q_aks, q_als, Nat.reduceAdd, Nat.reduceLeDiff, Nat.zero_le, true_and, and_true, Option.some.injEq, Sum.inl.injEq, Sum.inr.injEq, true_or, or_true, and_self, q_sw]
  rw [hh.1]
  refine hL (w + 1) 0 _ (by omega) (fr.wI fr.rf (Or.inl ⟨rfl, rfl⟩)) ?_ (fun j hj => absurd hj (Nat.not_lt_zero j))
  rw [q_I_wI, if_pos ⟨rfl, rfl, rfl⟩]
