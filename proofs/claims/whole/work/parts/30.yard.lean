/-! Yard: what its text told; rooms -/
/-- a yard: 0 lanes, 1 cars, 2 cost; 3 places of a lane; of a car: 4 length, 5 hour, 6 tries, 7 keys -/
abbrev YD : Type := Nat → Nat → Nat
def y_ok (Y : YD) : Prop := Y 0 0 ≤ 3 ∧ Y 1 0 ≤ 6 ∧ Y 2 0 ≤ 40 ∧ (∀ k, k < Y 0 0 → 1 ≤ Y 3 k ∧ Y 3 k ≤ 4) ∧ (∀ c, c < Y 1 0 → 1 ≤ Y 4 c ∧ Y 4 c ≤ 2 ∧ Y 5 c ≤ 99 ∧ Y 6 c ≤ 9 ∧ Y 7 c < 64)
/-- Yard object y of the store tells Y -/
def YR (S : qSt) (y : Nat) (Y : YD) : Prop := q_I S 3 y 0 = nI (Y 0 0) ∧ q_I S 3 y 1 = nI (Y 1 0) ∧ q_I S 3 y 2 = nI (Y 2 0) ∧ (∀ k, k < Y 0 0 → q_I S 4 y k = nI (Y 3 k)) ∧
  (∀ c, c < Y 1 0 → q_I S 5 y c = nI (Y 4 c) ∧ q_I S 6 y c = nI (Y 5 c) ∧ q_I S 7 y c = nI (Y 6 c) ∧ q_I S 8 y c = nI (Y 7 c))
theorem i_in {k n : Nat} (hk : k < n) (hn : n < 2 ^ 31) : vp_in (nI k) n := vp_in_nI hk hn
theorem i_cl {k : Nat} (hk : k < 2 ^ 31) : (nI k).toNatClampNeg = k := nI_clamp hk
def plc (Y : YD) (k : Nat) : Nat := if k < Y 0 0 then Y 3 k else 0
def lgt (Y : YD) (c : Nat) : Nat := if c < Y 1 0 then Y 4 c else 0
def lgo (Y : YD) : Option Nat → Nat
  | none => 0
  | some c => lgt Y c
theorem m1_lt : ¬ (0 : Int32) ≤ -1 := by decide
theorem c_placesOf (l : Launch) (S : qSt) {y : Nat} {Y : YD} (hY : y_ok Y) (hR : YR S y Y) {k : Nat} (hk : k < 2 ^ 20) : q_Met q_mt l 1 k_X9_placesOf 1 [.inr (.inr (3, y)), .inl (nI k)] S (fun r S' => r = some (.inl (nI (plc Y k))) ∧ S' = S) := by
  refine q_meth zoX9_placesOf q_fos (Nat.le_of_ble_eq_true rfl) ?_
  intro AT step
  refine step 20 [] 0 _ _ _ ?_
  simp only [q_vcs, q_vcc, q_vl, q_vu, ↓reduceIte, Nat.reduceEqDiff, Bool.false_eq_true, q_isc, q_mk, q_msk, zbX9_placesOf, q_pad, q_ent, q_get, q_put, q_nl, q_w, List.cons_append, List.nil_append, q_aks, q_als, Nat.reduceAdd, Nat.reduceLeDiff, Nat.zero_le, true_and, and_true, Option.some.injEq, Sum.inl.injEq, Sum.inr.injEq, true_or, or_true, and_self, q_sw]
  have h3 := hY.1
  rw [hR.1]
  refine ⟨fun h => absurd h (nI_pos (by omega)), fun _ => ⟨fun h => ?_, fun h => ?_⟩⟩
  · rw [nI_leI (by omega) (by omega)] at h
    rw [plc, if_neg (by omega)]
    rfl
  · rw [nI_leI (by omega) (by omega)] at h
    rw [i_cl (by omega), hR.2.2.2.1 k (by omega), plc, if_pos (by omega)]
    exact ⟨i_in (by omega) (by decide), rfl⟩
theorem c_placesOfN (l : Launch) (S : qSt) {y : Nat} : q_Met q_mt l 1 k_X9_placesOf 1 [.inr (.inr (3, y)), .inl (-1)] S (fun r S' => r = some (.inl (nI 0)) ∧ S' = S) := by
  refine q_meth zoX9_placesOf q_fos (Nat.le_of_ble_eq_true rfl) ?_
  intro AT step
  refine step 20 [] 0 _ _ _ ?_
  simp only [q_vcs, q_vcc, q_vl, q_vu, ↓reduceIte, Nat.reduceEqDiff, Bool.false_eq_true, q_isc, q_mk, q_msk, zbX9_placesOf, q_pad, q_ent, q_get, q_put, q_nl, q_w, List.cons_append, List.nil_append, q_aks, q_als, Nat.reduceAdd, Nat.reduceLeDiff, Nat.zero_le, true_and, and_true, Option.some.injEq, Sum.inl.injEq, Sum.inr.injEq, true_or, or_true, and_self, q_sw]
  refine ⟨fun _ => rfl, fun h => absurd (by decide) h⟩
theorem c_lengthOf (l : Launch) (S : qSt) {y : Nat} {Y : YD} (hY : y_ok Y) (hR : YR S y Y) {k : Nat} (hk : k < 2 ^ 20) : q_Met q_mt l 1 k_X9_lengthOf 1 [.inr (.inr (3, y)), .inl (nI k)] S (fun r S' => r = some (.inl (nI (lgt Y k))) ∧ S' = S) := by
  refine q_meth zoX9_lengthOf q_fos (Nat.le_of_ble_eq_true rfl) ?_
  intro AT step
  refine step 20 [] 0 _ _ _ ?_
  simp only [q_vcs, q_vcc, q_vl, q_vu, ↓reduceIte, Nat.reduceEqDiff, Bool.false_eq_true, q_isc, q_mk, q_msk, zbX9_lengthOf, q_pad, q_ent, q_get, q_put, q_nl, q_w, List.cons_append, List.nil_append, q_aks, q_als, Nat.reduceAdd, Nat.reduceLeDiff, Nat.zero_le, true_and, and_true, Option.some.injEq, Sum.inl.injEq, Sum.inr.injEq, true_or, or_true, and_self, q_sw]
  have h3 := hY.2.1
  rw [hR.2.1]
  refine ⟨fun h => absurd h (nI_pos (by omega)), fun _ => ⟨fun h => ?_, fun h => ?_⟩⟩
  · rw [nI_leI (by omega) (by omega)] at h
    rw [lgt, if_neg (by omega)]
    rfl
  · rw [nI_leI (by omega) (by omega)] at h
    rw [i_cl (by omega), (hR.2.2.2.2 k (by omega)).1, lgt, if_pos (by omega)]
    exact ⟨i_in (by omega) (by decide), rfl⟩
def hrt (Y : YD) (c : Nat) : Nat := if c < Y 1 0 then Y 5 c else 0
theorem c_hourOf (l : Launch) (S : qSt) {y : Nat} {Y : YD} (hY : y_ok Y) (hR : YR S y Y) {k : Nat} (hk : k < 2 ^ 20) : q_Met q_mt l 1 k_X9_hourOf 1 [.inr (.inr (3, y)), .inl (nI k)] S (fun r S' => r = some (.inl (nI (hrt Y k))) ∧ S' = S) := by
  refine q_meth zoX9_hourOf q_fos (Nat.le_of_ble_eq_true rfl) ?_
  intro AT step
  refine step 20 [] 0 _ _ _ ?_
  simp only [q_vcs, q_vcc, q_vl, q_vu, ↓reduceIte, Nat.reduceEqDiff, Bool.false_eq_true, q_isc, q_mk, q_msk, zbX9_hourOf, q_pad, q_ent, q_get, q_put, q_nl, q_w, List.cons_append, List.nil_append, q_aks, q_als, Nat.reduceAdd, Nat.reduceLeDiff, Nat.zero_le, true_and, and_true, Option.some.injEq, Sum.inl.injEq, Sum.inr.injEq, true_or, or_true, and_self, q_sw]
  have h3 := hY.2.1
  rw [hR.2.1]
  refine ⟨fun h => absurd h (nI_pos (by omega)), fun _ => ⟨fun h => ?_, fun h => ?_⟩⟩
  · rw [nI_leI (by omega) (by omega)] at h
    rw [hrt, if_neg (by omega)]
    rfl
  · rw [nI_leI (by omega) (by omega)] at h
    rw [i_cl (by omega), (hR.2.2.2.2 k (by omega)).2.1, hrt, if_pos (by omega)]
    exact ⟨i_in (by omega) (by decide), rfl⟩
def trt (Y : YD) (c : Nat) : Nat := if c < Y 1 0 then Y 6 c else 0
theorem c_triesOf (l : Launch) (S : qSt) {y : Nat} {Y : YD} (hY : y_ok Y) (hR : YR S y Y) {k : Nat} (hk : k < 2 ^ 20) : q_Met q_mt l 1 k_X9_triesOf 1 [.inr (.inr (3, y)), .inl (nI k)] S (fun r S' => r = some (.inl (nI (trt Y k))) ∧ S' = S) := by
  refine q_meth zoX9_triesOf q_fos (Nat.le_of_ble_eq_true rfl) ?_
  intro AT step
  refine step 20 [] 0 _ _ _ ?_
  simp only [q_vcs, q_vcc, q_vl, q_vu, ↓reduceIte, Nat.reduceEqDiff, Bool.false_eq_true, q_isc, q_mk, q_msk, zbX9_triesOf, q_pad, q_ent, q_get, q_put, q_nl, q_w, List.cons_append, List.nil_append, q_aks, q_als, Nat.reduceAdd, Nat.reduceLeDiff, Nat.zero_le, true_and, and_true, Option.some.injEq, Sum.inl.injEq, Sum.inr.injEq, true_or, or_true, and_self, q_sw]
  have h3 := hY.2.1
  rw [hR.2.1]
  refine ⟨fun h => absurd h (nI_pos (by omega)), fun _ => ⟨fun h => ?_, fun h => ?_⟩⟩
  · rw [nI_leI (by omega) (by omega)] at h
    rw [trt, if_neg (by omega)]
    rfl
  · rw [nI_leI (by omega) (by omega)] at h
    rw [i_cl (by omega), (hR.2.2.2.2 k (by omega)).2.2.1, trt, if_pos (by omega)]
    exact ⟨i_in (by omega) (by decide), rfl⟩
def kyt (Y : YD) (c : Nat) : Nat := if c < Y 1 0 then Y 7 c else 0
theorem c_keysOf (l : Launch) (S : qSt) {y : Nat} {Y : YD} (hY : y_ok Y) (hR : YR S y Y) {k : Nat} (hk : k < 2 ^ 20) : q_Met q_mt l 1 k_X9_keysOf 1 [.inr (.inr (3, y)), .inl (nI k)] S (fun r S' => r = some (.inl (nI (kyt Y k))) ∧ S' = S) := by
  refine q_meth zoX9_keysOf q_fos (Nat.le_of_ble_eq_true rfl) ?_
  intro AT step
  refine step 20 [] 0 _ _ _ ?_
  simp only [q_vcs, q_vcc, q_vl, q_vu, ↓reduceIte, Nat.reduceEqDiff, Bool.false_eq_true, q_isc, q_mk, q_msk, zbX9_keysOf, q_pad, q_ent, q_get, q_put, q_nl, q_w, List.cons_append, List.nil_append, q_aks, q_als, Nat.reduceAdd, Nat.reduceLeDiff, Nat.zero_le, true_and, and_true, Option.some.injEq, Sum.inl.injEq, Sum.inr.injEq, true_or, or_true, and_self, q_sw]
  have h3 := hY.2.1
  rw [hR.2.1]
  refine ⟨fun h => absurd h (nI_pos (by omega)), fun _ => ⟨fun h => ?_, fun h => ?_⟩⟩
  · rw [nI_leI (by omega) (by omega)] at h
    rw [kyt, if_neg (by omega)]
    rfl
  · rw [nI_leI (by omega) (by omega)] at h
    rw [i_cl (by omega), (hR.2.2.2.2 k (by omega)).2.2.2, kyt, if_pos (by omega)]
    exact ⟨i_in (by omega) (by decide), rfl⟩
theorem c_lengthOfN (l : Launch) (S : qSt) {y : Nat} : q_Met q_mt l 1 k_X9_lengthOf 1 [.inr (.inr (3, y)), .inl (-1)] S (fun r S' => r = some (.inl (nI 0)) ∧ S' = S) := by
  refine q_meth zoX9_lengthOf q_fos (Nat.le_of_ble_eq_true rfl) ?_
  intro AT step
  refine step 20 [] 0 _ _ _ ?_
  simp only [q_vcs, q_vcc, q_vl, q_vu, ↓reduceIte, Nat.reduceEqDiff, Bool.false_eq_true, q_isc, q_mk, q_msk, zbX9_lengthOf, q_pad, q_ent, q_get, q_put, q_nl, q_w, List.cons_append, List.nil_append, q_aks, q_als, Nat.reduceAdd, Nat.reduceLeDiff, Nat.zero_le, true_and, and_true, Option.some.injEq, Sum.inl.injEq, Sum.inr.injEq, true_or, or_true, and_self, q_sw]
  refine ⟨fun _ => rfl, fun h => absurd (by decide) h⟩
def usd (Y : YD) : List Nat → Nat
  | [] => 0
  | c :: r => lgt Y c + usd Y r
theorem lgt_le {Y : YD} (hY : y_ok Y) (c : Nat) : lgt Y c ≤ 2 := by
  unfold lgt
  split
  · exact (hY.2.2.2.2 c (by assumption)).2.1
  · omega
theorem usd_le {Y : YD} (hY : y_ok Y) : ∀ r : List Nat, usd Y r ≤ 2 * r.length
  | [] => by simp [usd]
  | c :: r => by
    have := usd_le hY r
    have := lgt_le hY c
    simp only [usd, List.length_cons]
    omega
/-- the room of a lane, as a whole number that may lie below 0 -/
def rmI (Y : YD) (P : Nat → List Nat) (k : Nat) : Int32 := nI (plc Y k) - nI (usd Y (P k))
theorem c_roomOf (l : Launch) (S : qSt) {y : Nat} {Y : YD} (hY : y_ok Y) (hR : YR S y Y) {P : Nat → List Nat} (hP : st_ok P) {k : Nat} (hk : k < 3) : q_Met q_mt l 2 k_X9_roomOf 1 [.inr (.inr (3, y)), .inr (.inl (lN (es P))), .inl (nI k)] S (fun r S' => r = some (.inl (rmI Y P k)) ∧ S' = S) := by
  refine q_meth zoX9_roomOf q_fos (Nat.le_of_ble_eq_true rfl) ?_
  intro AT step
  have hL : ∀ (r : List Nat) (a : Int32), rw_ok r → a - nI (usd Y r) = rmI Y P k → AT 1 [some (.inr (.inr (3, y))), some (Sum.inr (Sum.inl (lN (es P)))), none, some (Sum.inl (nI k)), some (Sum.inl a), some (Sum.inl (nI (er r)))] [] S := by
    intro r
    induction r with
    | nil =>
      intro a _ ha
      refine step 20 [(1, [true, true, true, true, true, true])] 1 _ _ _ ?_
      simp only [q_vcs, q_vcc, q_vl, q_vu, ↓reduceIte, Nat.reduceEqDiff, Bool.false_eq_true, q_isc, q_mk, q_msk, zbX9_roomOf, q_pad, q_ent, q_get, q_put, q_nl, q_w, List.cons_append, List.nil_append, q_aks, q_als, Nat.reduceAdd, Nat.reduceLeDiff, Nat.zero_le, true_and, and_true, Option.some.injEq, Sum.inl.injEq, Sum.inr.injEq, true_or, or_true, and_self, q_sw]
      refine ⟨fun _ => ?_, fun h => absurd rfl h⟩
      rw [← ha]
      show a = a - 0
      simp
    | cons c r ih =>
      intro a hr ha
      refine step 20 [(1, [true, true, true, true, true, true])] 1 _ _ _ ?_
      simp only [q_vcs, q_vcc, q_vl, q_vu, ↓reduceIte, Nat.reduceEqDiff, Bool.false_eq_true, q_isc, q_mk, q_msk, zbX9_roomOf, q_pad, q_ent, q_get, q_put, q_nl, q_w, List.cons_append, List.nil_append, q_aks, q_als, Nat.reduceAdd, Nat.reduceLeDiff, Nat.zero_le, true_and, and_true, Option.some.injEq, Sum.inl.injEq, Sum.inr.injEq, true_or, or_true, and_self, q_sw]
      have hlt := er_18 hr
      have hc := hr.2 c List.mem_cons_self
      refine ⟨fun h => ?_, fun _ => ?_⟩
      · rw [show (0 : Int32) = nI 0 from rfl, nI_eq (by omega) (by decide)] at h
        simp [er] at h
      · rw [i_mask7, i_shr3 (by omega), er_hd hr.2, er_tl hr.2]
        refine q_u1 (by decide) (c_lengthOf l S hY hR (k := c) (by omega)) ?_
        refine ih _ ⟨by have := hr.1; simp at this; omega, fun x hx => hr.2 x (List.mem_cons_of_mem _ hx)⟩ ?_
        rw [← ha, usd, ← nI_add, Int32.sub_sub]
  refine step 20 [(1, [true, true, true, true, true, true])] 0 _ _ _ ?_
  simp only [q_vcs, q_vcc, q_vl, q_vu, ↓reduceIte, Nat.reduceEqDiff, Bool.false_eq_true, q_isc, q_mk, q_msk, zbX9_roomOf, q_pad, q_ent, q_get, q_put, q_nl, q_w, List.cons_append, List.nil_append, q_aks, q_als, Nat.reduceAdd, Nat.reduceLeDiff, Nat.zero_le, true_and, and_true, Option.some.injEq, Sum.inl.injEq, Sum.inr.injEq, true_or, or_true, and_self, q_sw]
  refine q_u1 (by decide) (c_placesOf l S hY hR (k := k) (by omega)) ?_
  refine q_u1 (by decide) (c_rowOf l S hP hk) ?_
  exact hL (P k) _ (st_row hP hk) rfl
