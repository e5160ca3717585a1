/-! Yard: a car's first place; evenings -/
def fpl (Y : YD) (P : Nat → List Nat) (c : Nat) : Option Nat := match lnof P c with
  | none => none
  | some k => (List.range (plc Y k)).find? (fun (p : Nat) => decide (onp Y P k p = some c))
theorem onw_mem {Y : YD} : ∀ {w : List Nat} {a p : Int} {c : Nat}, onw Y w a p = some c → c ∈ w
  | [], _, _, _, h => by cases h
  | x :: w, a, p, c, h => by
    unfold onw at h
    split at h
    · cases h; exact List.mem_cons_self
    · exact List.mem_cons_of_mem _ (onw_mem h)
theorem onp_lt {Y : YD} {P : Nat → List Nat} (hP : st_ok P) {k : Nat} (hk : k < 3) {p : Int} : ∀ c, onp Y P k p = some c → c < 2 ^ 31 := fun c h => by
  have := (st_row hP hk).2 c (List.mem_reverse.mp (onw_mem h))
  omega
theorem c_firstPlaceOf (l : Launch) (S : qSt) {y : Nat} {Y : YD} (hY : y_ok Y) (hR : YR S y Y) {P : Nat → List Nat} (hP : st_ok P) {c : Nat} (hc : c < 2 ^ 20) : q_Met q_mt l 3 k_X9_firstPlaceOf 1 [.inr (.inr (3, y)), .inr (.inl (lN (es P))), .inl (nI c)] S (fun r S' => r = some (.inl (oI (fpl Y P c))) ∧ S' = S) := by
  refine q_meth zoX9_firstPlaceOf q_fos (Nat.le_of_ble_eq_true rfl) ?_
  intro AT step
  refine step 40 [(1, [true, true, true, true, true, true])] 0 _ _ _ ?_
  simp only [q_vcs, q_vcc, q_vl, q_vu, ↓reduceIte, Nat.reduceEqDiff, Bool.false_eq_true, q_isc, q_mk, q_msk, zbX9_firstPlaceOf, q_pad, q_ent, q_get, q_put, q_nl, q_w, List.cons_append, List.nil_append, q_aks, q_als, Nat.reduceAdd, Nat.reduceLeDiff, Nat.zero_le, true_and, and_true, Option.some.injEq, Sum.inl.injEq, Sum.inr.injEq, true_or, or_true, and_self, q_sw]
  refine q_u1 (by decide) (c_laneOf l S hP hc) ?_
  cases hln : lnof P c with
  | none =>
    refine step 40 [(1, [true, true, true, true, true, true])] 1 _ _ _ ?_
    simp only [q_vcs, q_vcc, q_vl, q_vu, ↓reduceIte, Nat.reduceEqDiff, Bool.false_eq_true, q_isc, q_mk, q_msk, zbX9_firstPlaceOf, q_pad, q_ent, q_get, q_put, q_nl, q_w, List.cons_append, List.nil_append, q_aks, q_als, Nat.reduceAdd, Nat.reduceLeDiff, Nat.zero_le, true_and, and_true, Option.some.injEq, Sum.inl.injEq, Sum.inr.injEq, true_or, or_true, and_self, q_sw]
    have hf : fpl Y P c = none := by unfold fpl; rw [hln]
    rw [hf]
    refine q_u1 (by decide) (c_placesOfN l S) ?_
    exact ⟨fun _ => ⟨rfl, rfl⟩, fun h => absurd (by decide) h⟩
  | some k =>
    have hk := (lnof_lt hln).1
    have hp4 := plc_le hY k
    have hL : ∀ (m i : Nat), i + m = plc Y k → (List.range' i m).find? (fun (p : Nat) => decide (onp Y P k p = some c)) = fpl Y P c → AT 1 [some (.inr (.inr (3, y))), some (.inr (.inl (lN (es P)))), none, some (.inl (nI c)), some (.inl (nI k)), some (.inl (nI i))] [] S := by
      intro m
      induction m with
      | zero =>
        intro i hi hs
        refine step 40 [(1, [true, true, true, true, true, true])] 1 _ _ _ ?_
        simp only [q_vcs, q_vcc, q_vl, q_vu, ↓reduceIte, Nat.reduceEqDiff, Bool.false_eq_true, q_isc, q_mk, q_msk, zbX9_firstPlaceOf, q_pad, q_ent, q_get, q_put, q_nl, q_w, List.cons_append, List.nil_append, q_aks, q_als, Nat.reduceAdd, Nat.reduceLeDiff, Nat.zero_le, true_and, and_true, Option.some.injEq, Sum.inl.injEq, Sum.inr.injEq, true_or, or_true, and_self, q_sw]
        refine q_u1 (by decide) (c_placesOf l S hY hR (k := k) (by omega)) ?_
        rw [nI_leI (by omega) (by omega)]
        refine ⟨fun _ => ?_, fun h => absurd (by omega) h⟩
        rw [← hs]
        exact ⟨rfl, rfl⟩
      | succ m ih =>
        intro i hi hs
        rw [List.range'_succ] at hs
        refine step 40 [(1, [true, true, true, true, true, true])] 1 _ _ _ ?_
        simp only [q_vcs, q_vcc, q_vl, q_vu, ↓reduceIte, Nat.reduceEqDiff, Bool.false_eq_true, q_isc, q_mk, q_msk, zbX9_firstPlaceOf, q_pad, q_ent, q_get, q_put, q_nl, q_w, List.cons_append, List.nil_append, q_aks, q_als, Nat.reduceAdd, Nat.reduceLeDiff, Nat.zero_le, true_and, and_true, Option.some.injEq, Sum.inl.injEq, Sum.inr.injEq, true_or, or_true, and_self, q_sw]
        refine q_u1 (by decide) (c_placesOf l S hY hR (k := k) (by omega)) ?_
        rw [nI_leI (by omega) (by omega)]
        refine ⟨fun h => absurd h (by omega), fun _ => q_u1 (by decide) (c_carOn l S hY hR hP hk (nI i)) ?_⟩
        rw [nI_toInt (by omega), nI_1]
        have e : oI (onp Y P k i) = nI c ↔ onp Y P k i = some c := oI_eq (b := some c) (onp_lt hP hk) (fun x hx => by cases hx; omega)
        rw [e]
        refine ⟨fun h => ih (i + 1) (by omega) ?_, fun h => ?_⟩
        · rw [← hs, List.find?_cons_of_neg (by simpa using h)]
        · rw [← hs, List.find?_cons_of_pos (by simpa using h)]
          exact ⟨rfl, rfl⟩
    refine hL (plc Y k) 0 (by omega) ?_
    unfold fpl
    rw [hln, ← List.range_eq_range']
/-- one way to stand in the evening, by the digits of a number -/
def evl (Y : YD) (told : Nat) : Nat → Nat → Nat → (Nat → List Nat) → Nat → Option Nat
  | 0, _, _, P, g => some (4096 * prs Y P + g)
  | k + 1, c, w, P, g => if told.testBit c = true ∧ 0 < Y 0 0 then (if rmZ Y P (w % Y 0 0) < lgt Y c then none else evl Y told k (c + 1) (w / Y 0 0) (sp P (w % Y 0 0) (c :: P (w % Y 0 0))) (4 * g + w % Y 0 0)) else evl Y told k (c + 1) w P g
def nil3 : Nat → List Nat := fun _ => []
theorem p_nil (Y : YD) : p_ok Y nil3 := ⟨⟨⟨by simp [nil3], fun c h => by cases h⟩, ⟨by simp [nil3], fun c h => by cases h⟩, ⟨by simp [nil3], fun c h => by cases h⟩⟩, fun _ _ => rfl, (fun k c h => by cases h), by simp [nil3]⟩
theorem bk_le (Y : YD) (b : Nat) : ∀ r : List Nat, bk Y b r ≤ b * r.length
  | [] => by simp [bk]
  | c :: r => by
    have := bk_le Y b r
    have h2 := Nat.min_le_left b (r.countP (fun x => soon Y x c))
    simp only [bk, List.length_cons, Nat.mul_succ]
    omega
theorem prs_le {Y : YD} {P : Nat → List Nat} (h : st_ok P) : prs Y P ≤ 108 := by
  have h0 := bk_le Y 6 (P 0)
  have h1 := bk_le Y 6 (P 1)
  have h2 := bk_le Y 6 (P 2)
  have := h.1.1
  have := h.2.1.1
  have := h.2.2.1
  unfold prs bks
  omega
theorem lnof_new {P : Nat → List Nat} {c : Nat} (h : ∀ k x, x ∈ P k → x < c) : lnof P c = none := by
  cases e : lnof P c with
  | none => rfl
  | some k => have := h k c (lnof_lt e).2; omega
theorem sp_new {P : Nat → List Nat} {k c : Nat} (h : ∀ k x, x ∈ P k → x < c) : ∀ j x, x ∈ sp P k (c :: P k) j → x < c + 1 := fun j x hx => by
  unfold sp at hx
  split at hx
  · rcases List.mem_cons.mp hx with e | e
    · omega
    · have := h k x e; omega
  · have := h j x hx; omega
theorem c_eveningBy (l : Launch) (S : qSt) {y : Nat} {Y : YD} (hY : y_ok Y) (hO : YO S y Y) {told w : Nat} (ht : told < 64) (hw : w < 2 ^ 31) : q_Met q_mt l 4 k_X9_eveningBy 1 [.inr (.inr (3, y)), .inl (nI w), .inl (nI told)] S (fun r S' => r = some (.inl (oI (evl Y told (Y 1 0) 0 w nil3 0))) ∧ S' = S) := by
  refine q_meth zoX9_eveningBy q_fos (Nat.le_of_ble_eq_true rfl) ?_
  intro AT step
  have h6 := hY.2.1
  have h3 := hY.1
  have hL : ∀ (k c w1 g : Nat) (P : Nat → List Nat), c + k = Y 1 0 → w1 < 2 ^ 31 → g < 4 ^ c → p_ok Y P → (∀ k x, x ∈ P k → x < c) → evl Y told k c w1 P g = evl Y told (Y 1 0) 0 w nil3 0 → AT 1 [some (.inr (.inr (3, y))), some (.inl (nI w)), some (.inl (nI told)), some (.inr (.inl (lN (es P)))), none, some (.inl (nI g)), some (.inl (nI w1)), some (.inl (nI c)), none] [] S := by
    intro k
    induction k with
    | zero =>
      intro c w1 g P hc hw1 hg hP hn hs
      refine step 40 [(1, [true, true, true, true, true, true, true, true, false])] 1 _ _ _ ?_
      simp only [q_vcs, q_vcc, q_vl, q_vu, ↓reduceIte, Nat.reduceEqDiff, Bool.false_eq_true, q_isc, q_mk, q_msk, zbX9_eveningBy, q_pad, q_ent, q_get, q_put, q_nl, q_w, List.cons_append, List.nil_append, q_aks, q_als, Nat.reduceAdd, Nat.reduceLeDiff, Nat.zero_le, true_and, and_true, Option.some.injEq, Sum.inl.injEq, Sum.inr.injEq, true_or, or_true, and_self, q_sw]
      rw [hO.1.2.1, nI_leI (by omega) (by omega)]
      refine ⟨fun _ => q_u1 (by decide) (c_pairsOf l S hY hO hP) ?_, fun h => absurd (by omega) h⟩
      have hp := prs_le (Y := Y) hP.1
      have hg12 : g < 2 ^ 12 := Nat.lt_of_lt_of_le hg (by
        have : (4 : Nat) ^ c ≤ 4 ^ 6 := Nat.pow_le_pow_right (by decide) (by omega)
        omega)
      rw [show (12 : Int32) = nI 12 from rfl, i_shlN (by omega) (by decide), i_or hg12, ← hs]
      rw [show g + 2 ^ 12 * prs Y P = 4096 * prs Y P + g by omega]
      exact ⟨rfl, rfl⟩
    | succ k ih =>
      intro c w1 g P hc hw1 hg hP hn hs
      rw [evl] at hs
      refine step 40 [(1, [true, true, true, true, true, true, true, true, false])] 1 _ _ _ ?_
      simp only [q_vcs, q_vcc, q_vl, q_vu, ↓reduceIte, Nat.reduceEqDiff, Bool.false_eq_true, q_isc, q_mk, q_msk, zbX9_eveningBy, q_pad, q_ent, q_get, q_put, q_nl, q_w, List.cons_append, List.nil_append, q_aks, q_als, Nat.reduceAdd, Nat.reduceLeDiff, Nat.zero_le, true_and, and_true, Option.some.injEq, Sum.inl.injEq, Sum.inr.injEq, true_or, or_true, and_self, q_sw]
      have hg4 : (4 : Nat) ^ c ≤ 4 ^ 6 := Nat.pow_le_pow_right (by decide) (by omega)
      rw [hO.1.2.1, hO.1.1, nI_leI (by omega) (by omega), i_bit (by omega) (by omega), i_bit0, nI_1]
      have hskip : ¬ (told.testBit c = true ∧ 0 < Y 0 0) → AT 1 [some (.inr (.inr (3, y))), some (.inl (nI w)), some (.inl (nI told)), some (.inr (.inl (lN (es P)))), none, some (.inl (nI g)), some (.inl (nI w1)), some (.inl (nI (c + 1))), none] [] S := by
        intro hno
        rw [if_neg hno] at hs
        refine ih (c + 1) w1 g P (by omega) hw1 ?_ hP (fun k x hx => Nat.lt_succ_of_lt (hn k x hx)) hs
        rw [Nat.pow_succ]; omega
      refine ⟨fun h => absurd h (by omega), fun _ => ⟨fun h => hskip (by simp [h]), fun h => ⟨fun h0 => ?_, fun h0 => hskip (fun q => h0 (Int32.not_le.mp (nI_nle q.2 (by omega))))⟩⟩⟩
      have hL0 : 0 < Y 0 0 := by
        rcases Nat.eq_zero_or_pos (Y 0 0) with e | e
        · rw [e] at h0; exact absurd h0 (by decide)
        · exact e
      have hb : told.testBit c = true := by simpa using h
      rw [if_pos ⟨hb, hL0⟩] at hs
      have hm := Nat.mod_lt w1 hL0
      have hl2 := lgt_le hY c
      rw [i_rem hw1 hL0 (by omega), i_div hw1 hL0 (by omega)]
      obtain ⟨g1, g2⟩ := p_in hY hP (c := c) (k := w1 % Y 0 0) (by omega) (lnof_new hn) hm
      refine ⟨nI_ne0 hL0 (by omega), nI_ne0 hL0 (by omega), q_u1 (by decide) (c_roomOf l S hY hO.1 hP.1 (k := w1 % Y 0 0) (by omega)) (q_u1 (by decide) (c_lengthOf l S hY hO.1 (k := c) (by omega)) ?_)⟩
      rw [rmI_le hY hP.1 (by omega) (by omega)]
      refine ⟨fun h => q_u2 (by decide) (c_driveIn l S hP.1 (k := w1 % Y 0 0) (c := c) (by omega) (by omega) g2) ?_, fun h => ?_⟩
      · rw [if_neg (by omega)] at hs
        have e4 : nI g * 4 + nI (w1 % Y 0 0) = nI (4 * g + w1 % Y 0 0) := by
          rw [show (4 : Int32) = nI 4 from rfl, pk_mul, nI_add, Nat.mul_comm]
        rw [e4]
        refine ih (c + 1) _ _ _ (by omega) (Nat.lt_of_le_of_lt (Nat.div_le_self _ _) hw1) ?_ g1 (sp_new hn) hs
        rw [Nat.pow_succ]; omega
      · rw [if_pos (by omega)] at hs
        rw [← hs]
        exact ⟨rfl, rfl⟩
  refine step 40 [(1, [true, true, true, true, true, true, true, true, false])] 0 _ _ _ ?_
  simp only [q_vcs, q_vcc, q_vl, q_vu, ↓reduceIte, Nat.reduceEqDiff, Bool.false_eq_true, q_isc, q_mk, q_msk, zbX9_eveningBy, q_pad, q_ent, q_get, q_put, q_nl, q_w, List.cons_append, List.nil_append, q_aks, q_als, Nat.reduceAdd, Nat.reduceLeDiff, Nat.zero_le, true_and, and_true, Option.some.injEq, Sum.inl.injEq, Sum.inr.injEq, true_or, or_true, and_self, q_sw]
  exact hL (Y 1 0) 0 w 0 nil3 (by omega) hw (by decide) (p_nil Y) (fun k x hx => by cases hx) rfl
/-- the least of what there is -/
def mnO : Option Nat → Option Nat → Option Nat
  | none, b => b
  | a, none => a
  | some a, some b => some (min a b)
def evb (Y : YD) (told : Nat) : Nat → Option Nat
  | 0 => none
  | w + 1 => mnO (evb Y told w) (evl Y told (Y 1 0) 0 w nil3 0)
theorem evl_lt (Y : YD) (told : Nat) : ∀ (k c w : Nat) (P : Nat → List Nat) (g v : Nat), y_ok Y → c + k = Y 1 0 → p_ok Y P → (∀ k x, x ∈ P k → x < c) → g < 4 ^ c → evl Y told k c w P g = some v → v < 2 ^ 20
  | 0, c, w, P, g, v, hY, hc, hP, hn, hg, h => by
    have h6 := hY.2.1
    have hg4 : (4 : Nat) ^ c ≤ 4 ^ 6 := Nat.pow_le_pow_right (by decide) (by omega)
    have := prs_le (Y := Y) hP.1
    cases h
    omega
  | k + 1, c, w, P, g, v, hY, hc, hP, hn, hg, h => by
    unfold evl at h
    have hg4 : (4 : Nat) ^ c < 4 ^ (c + 1) := by rw [Nat.pow_succ]; omega
    split at h
    · rename_i hb
      split at h
      · cases h
      · have hm := Nat.mod_lt w hb.2
        have h3 := hY.1
        refine evl_lt Y told k (c + 1) _ _ _ v hY (by omega) (p_in hY hP (by omega) (lnof_new hn) hm).1 (sp_new hn) ?_ h
        rw [Nat.pow_succ]; omega
    · exact evl_lt Y told k (c + 1) w P g v hY (by omega) hP (fun k x hx => Nat.lt_succ_of_lt (hn k x hx)) (by omega) h
theorem evb_lt {Y : YD} (hY : y_ok Y) (told : Nat) : ∀ (n v : Nat), evb Y told n = some v → v < 2 ^ 20
  | 0, v, h => by cases h
  | n + 1, v, h => by
    unfold evb at h
    have ih := evb_lt hY told n
    have he := fun v => evl_lt Y told (Y 1 0) 0 n nil3 0 v hY (by omega) (p_nil Y) (fun k x hx => by cases hx) (by decide)
    cases e1 : evb Y told n with
    | none => rw [e1] at h; exact he v h
    | some a =>
      rw [e1] at h
      cases e2 : evl Y told (Y 1 0) 0 n nil3 0 with
      | none => rw [e2] at h; cases h; exact ih _ e1
      | some b =>
        rw [e2] at h
        cases h
        have := ih a e1
        omega
theorem c_bestEvening (l : Launch) (S : qSt) {y : Nat} {Y : YD} (hY : y_ok Y) (hO : YO S y Y) {told : Nat} (ht : told < 64) : q_Met q_mt l 5 k_X9_bestEvening 1 [.inr (.inr (3, y)), .inl (nI told)] S (fun r S' => r = some (.inl (oI (evb Y told (Y 0 0 ^ pcn told)))) ∧ S' = S) := by
  refine q_meth zoX9_bestEvening q_fos (Nat.le_of_ble_eq_true rfl) ?_
  intro AT step
  have h6 := hY.2.1
  have h3 := hY.1
  have hpc : pcn told ≤ 6 := by
    have : pcn told = fa_cnt (fun i => told.testBit i) 6 := by
      unfold pcn
      exact cnt_more _ 6 6 (fun k h1 h2 => Nat.testBit_lt_two_pow (Nat.lt_of_lt_of_le ht (show 2 ^ 6 ≤ 2 ^ k from Nat.pow_le_pow_right (by decide) h1)))
    rw [this]
    exact fa_cnt_le _ 6
  have hway : ∀ i, i ≤ 6 → Y 0 0 ^ i ≤ 729 := fun i hi => by
    have h1 : Y 0 0 ^ i ≤ 3 ^ i := Nat.pow_le_pow_left h3 i
    have h2 : (3 : Nat) ^ i ≤ 3 ^ 6 := Nat.pow_le_pow_right (by decide) hi
    omega
  have hL2 : ∀ (k w : Nat), w + k = Y 0 0 ^ pcn told → AT 3 [some (.inr (.inr (3, y))), some (.inl (nI told)), some (.inl (nI (Y 0 0 ^ pcn told))), some (.inl (oI (evb Y told w))), some (.inl (nI w)), none] [] S := by
    intro k
    induction k with
    | zero =>
      intro w hw
      have := hway _ hpc
      refine step 40 [(1, [true, true, true, true, false, false]), (3, [true, true, true, true, true, false])] 3 _ _ _ ?_
      simp only [q_vcs, q_vcc, q_vl, q_vu, ↓reduceIte, Nat.reduceEqDiff, Bool.false_eq_true, q_isc, q_mk, q_msk, zbX9_bestEvening, q_pad, q_ent, q_get, q_put, q_nl, q_w, List.cons_append, List.nil_append, q_aks, q_als, Nat.reduceAdd, Nat.reduceLeDiff, Nat.zero_le, true_and, and_true, Option.some.injEq, Sum.inl.injEq, Sum.inr.injEq, true_or, or_true, and_self, q_sw]
      rw [nI_leI (by omega) (by omega)]
      refine ⟨fun _ => ?_, fun h => absurd (by omega) h⟩
      rw [show w = Y 0 0 ^ pcn told by omega]
    | succ k ih =>
      intro w hw
      have := hway _ hpc
      have ih := ih (w + 1) (by omega)
      rw [evb] at ih
      refine step 40 [(1, [true, true, true, true, false, false]), (3, [true, true, true, true, true, false])] 3 _ _ _ ?_
      simp only [q_vcs, q_vcc, q_vl, q_vu, ↓reduceIte, Nat.reduceEqDiff, Bool.false_eq_true, q_isc, q_mk, q_msk, zbX9_bestEvening, q_pad, q_ent, q_get, q_put, q_nl, q_w, List.cons_append, List.nil_append, q_aks, q_als, Nat.reduceAdd, Nat.reduceLeDiff, Nat.zero_le, true_and, and_true, Option.some.injEq, Sum.inl.injEq, Sum.inr.injEq, true_or, or_true, and_self, q_sw]
      rw [nI_leI (by omega) (by omega), nI_1]
      refine ⟨fun h => absurd h (by omega), fun _ => q_u1 (by decide) (c_eveningBy l S hY hO ht (w := w) (by omega)) ?_⟩
      have b1 := evb_lt hY told w
      have b2 := fun v => evl_lt Y told (Y 1 0) 0 w nil3 0 v hY (by omega) (p_nil Y) (fun k x hx => by cases hx) (by decide)
      cases e2 : evl Y told (Y 1 0) 0 w nil3 0 with
      | none =>
        rw [e2] at ih
        have e9 : mnO (evb Y told w) none = evb Y told w := by cases evb Y told w <;> rfl
        rw [e9] at ih
        exact ⟨fun _ => ih, fun h => absurd rfl h⟩
      | some b =>
        have b2 := b2 b e2
        rw [e2] at ih
        refine ⟨fun h => absurd h (i_ne1 (by omega)), fun _ => ?_⟩
        cases e1 : evb Y told w with
        | none =>
          rw [e1] at ih
          exact ⟨fun _ => ih, fun h => absurd rfl h⟩
        | some a =>
          have b1 := b1 a e1
          rw [e1] at ih
          refine ⟨fun h => absurd h (i_ne1 (by omega)), fun _ => ?_⟩
          show (nI a ≤ nI b → _) ∧ (¬ nI a ≤ nI b → _)
          rw [nI_leI (by omega) (by omega)]
          refine ⟨fun h => ?_, fun h => ?_⟩
          · rw [show mnO (some a) (some b) = some a by show some (min a b) = _; rw [Nat.min_eq_left h]] at ih
            exact ih
          · rw [show mnO (some a) (some b) = some b by show some (min a b) = _; rw [Nat.min_eq_right (by omega)]] at ih
            exact ih
  have hL1 : ∀ (k i : Nat), i + k = pcn told → AT 1 [some (.inr (.inr (3, y))), some (.inl (nI told)), some (.inl (nI (Y 0 0 ^ i))), some (.inl (nI i)), none, none] [] S := by
    intro k
    induction k with
    | zero =>
      intro i hi
      refine step 40 [(1, [true, true, true, true, false, false]), (3, [true, true, true, true, true, false])] 1 _ _ _ ?_
      simp only [q_vcs, q_vcc, q_vl, q_vu, ↓reduceIte, Nat.reduceEqDiff, Bool.false_eq_true, q_isc, q_mk, q_msk, zbX9_bestEvening, q_pad, q_ent, q_get, q_put, q_nl, q_w, List.cons_append, List.nil_append, q_aks, q_als, Nat.reduceAdd, Nat.reduceLeDiff, Nat.zero_le, true_and, and_true, Option.some.injEq, Sum.inl.injEq, Sum.inr.injEq, true_or, or_true, and_self, q_sw]
      refine q_u1 (by decide) (c_bitCount l S (n := told) (by omega)) ?_
      rw [nI_leI (by omega) (by omega)]
      refine ⟨fun _ => ?_, fun h => absurd (by omega) h⟩
      rw [show i = pcn told by omega]
      exact hL2 (Y 0 0 ^ pcn told) 0 (by omega)
    | succ k ih =>
      intro i hi
      refine step 40 [(1, [true, true, true, true, false, false]), (3, [true, true, true, true, true, false])] 1 _ _ _ ?_
      simp only [q_vcs, q_vcc, q_vl, q_vu, ↓reduceIte, Nat.reduceEqDiff, Bool.false_eq_true, q_isc, q_mk, q_msk, zbX9_bestEvening, q_pad, q_ent, q_get, q_put, q_nl, q_w, List.cons_append, List.nil_append, q_aks, q_als, Nat.reduceAdd, Nat.reduceLeDiff, Nat.zero_le, true_and, and_true, Option.some.injEq, Sum.inl.injEq, Sum.inr.injEq, true_or, or_true, and_self, q_sw]
      refine q_u1 (by decide) (c_bitCount l S (n := told) (by omega)) ?_
      rw [nI_leI (by omega) (by omega), hO.1.1, pk_mul, nI_1, ← Nat.pow_succ]
      exact ⟨fun h => absurd h (by omega), fun _ => ih (i + 1) (by omega)⟩
  refine step 40 [(1, [true, true, true, true, false, false]), (3, [true, true, true, true, true, false])] 0 _ _ _ ?_
  simp only [q_vcs, q_vcc, q_vl, q_vu, ↓reduceIte, Nat.reduceEqDiff, Bool.false_eq_true, q_isc, q_mk, q_msk, zbX9_bestEvening, q_pad, q_ent, q_get, q_put, q_nl, q_w, List.cons_append, List.nil_append, q_aks, q_als, Nat.reduceAdd, Nat.reduceLeDiff, Nat.zero_le, true_and, and_true, Option.some.injEq, Sum.inl.injEq, Sum.inr.injEq, true_or, or_true, and_self, q_sw]
  exact hL1 (pcn told) 0 (by omega)
