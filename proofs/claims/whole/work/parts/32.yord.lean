/-! Yard: its orders; who blocks whom; who goes next -/
def sob (Y : YD) (c : Nat) : Nat := bpr (fun x => soon Y x c) (Y 1 0)
/-- the rows of the orders, for the cars below n -/
def YOn (S : qSt) (y : Nat) (Y : YD) (n : Nat) : Prop := ∀ c, c < n → q_I S 9 y c = nI (sob Y c) ∧ q_I S 10 y (rk (soon Y) (Y 1 0) c) = nI c ∧ q_I S 11 y (rk (homs Y) (Y 1 0) c) = nI c
def YO (S : qSt) (y : Nat) (Y : YD) : Prop := YR S y Y ∧ YOn S y Y (Y 1 0)
theorem sob_lt {Y : YD} (hY : y_ok Y) (c : Nat) : sob Y c < 64 := Nat.lt_of_lt_of_le (bpr_lt _ _) (show 2 ^ Y 1 0 ≤ 2 ^ 6 from Nat.pow_le_pow_right (by decide) hY.2.1)
theorem YO.lv {S : qSt} {y : Nat} {Y : YD} (h : YO S y Y) {i : Nat} (hi : i < Y 1 0) : q_I S 10 y i = nI (lvc (soon Y) (Y 1 0) i) := by
  have := lvc_spec (soon_ok Y) hi
  have h2 := (h.2 _ this.1).2.1
  rwa [this.2] at h2
theorem YO.cm {S : qSt} {y : Nat} {Y : YD} (h : YO S y Y) {i : Nat} (hi : i < Y 1 0) : q_I S 11 y i = nI (lvc (homs Y) (Y 1 0) i) := by
  have := lvc_spec (homs_ok Y) hi
  have h2 := (h.2 _ this.1).2.2
  rwa [this.2] at h2
def bI (b : Bool) : Int32 := if b then 1 else 0
theorem c_isSooner (l : Launch) (S : qSt) {y : Nat} {Y : YD} (hY : y_ok Y) (hR : YR S y Y) {a b : Nat} (ha : a < Y 1 0) (hb : b < Y 1 0) : q_Met q_mt l 0 k_X9_isSooner 1 [.inr (.inr (3, y)), .inl (nI a), .inl (nI b)] S (fun r S' => r = some (.inl (bI (soon Y a b))) ∧ S' = S) := by
  refine q_meth zoX9_isSooner q_fos (Nat.le_of_ble_eq_true rfl) ?_
  intro AT step
  refine step 20 [] 0 _ _ _ ?_
  simp only [q_vcs, q_vcc, q_vl, q_vu, ↓reduceIte, Nat.reduceEqDiff, Bool.false_eq_true, q_isc, q_mk, q_msk, zbX9_isSooner, q_pad, q_ent, q_get, q_put, q_nl, q_w, List.cons_append, List.nil_append, q_aks, q_als, Nat.reduceAdd, Nat.reduceLeDiff, Nat.zero_le, true_and, and_true, Option.some.injEq, Sum.inl.injEq, Sum.inr.injEq, true_or, or_true, and_self, q_sw]
  have h6 := hY.2.1
  have ea := hR.2.2.2.2 a ha
  have eb := hR.2.2.2.2 b hb
  have ba := hY.2.2.2.2 a ha
  have bb := hY.2.2.2.2 b hb
  rw [i_cl (show a < 2 ^ 31 by omega), i_cl (show b < 2 ^ 31 by omega), ea.2.1, eb.2.1]
  have ia : vp_in (nI a) 6 := i_in (by omega) (by decide)
  have ib : vp_in (nI b) 6 := i_in (by omega) (by decide)
  rw [nI_ltI (by omega) (by omega), nI_eq (by omega) (by omega), nI_leI (by omega) (by omega)]
  unfold bI soon
  refine ⟨ia, ib, fun h => ?_, fun h => ⟨ia, ib, fun h2 => ?_, fun h2 => ⟨fun h3 => ?_, fun h3 => ?_⟩⟩⟩
  · simp [h]
  · have : ¬ (Y 5 a < Y 5 b ∨ Y 5 a = Y 5 b ∧ a < b) := by omega
    simp [this]
  · have : ¬ (Y 5 a < Y 5 b ∨ Y 5 a = Y 5 b ∧ a < b) := by omega
    simp [this]
  · have : (Y 5 a < Y 5 b ∨ Y 5 a = Y 5 b ∧ a < b) := by omega
    simp [this]
