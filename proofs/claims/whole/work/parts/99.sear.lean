/-! The class's search: room, goal, least -/
def SO (S : qSt) (y : Nat) (w : Int32) (g : Option Nat) : Prop := q_M S 29 0 5 = y ∧ q_I S 29 0 6 = w ∧ q_I S 29 0 7 = oI g ∧ ∀ c, g = some c → c < 6
def rmW (Y : YD) (w : Int32) (P : Nat → List Nat) (k : Nat) : Int32 := rmI Y P k + if k = 0 then w else 0
theorem c_sroomOf (l : Launch) (S : qSt) {y : Nat} {w : Int32} {g : Option Nat} {Y : YD} (hS : SO S y w g) (hY : y_ok Y) (hR : YR S y Y) {P : Nat → List Nat} (hP : st_ok P) {k : Nat} (hk : k < 3) : q_Met q_mt l 3 k_X5_roomOf 1 [.inr (.inr (29, 0)), .inr (.inl (lN (es P))), .inl (nI k)] S (fun r S' => r = some (.inl (rmW Y w P k)) ∧ S' = S) := by
  refine q_meth zoX5_roomOf q_fos (Nat.le_of_ble_eq_true rfl) ?_
  intro AT step
  refine step 20 [] 0 _ _ _ ?_
  simp only [q_vcs, q_vcc, q_vl, q_vu, ↓reduceIte, Nat.reduceEqDiff, Bool.false_eq_true, q_isc, q_mk, q_msk, zbX5_roomOf, q_pad, q_ent, q_get, q_put, q_nl, q_w, List.cons_append, List.nil_append, q_aks, q_als, Nat.reduceAdd, Nat.reduceLeDiff, Nat.zero_le, true_and, and_true, Option.some.injEq, Sum.inl.injEq, Sum.inr.injEq, true_or, or_true, and_self, q_sw]
  rw [hS.1]
  refine q_u1 (by decide) (c_roomOf l S hY hR hP hk) ?_
  rw [hS.2.1, show (0 : Int32) = nI 0 from rfl, nI_eq (by omega) (by decide)]
  unfold rmW
  refine ⟨fun h => ?_, fun h => ?_⟩
  all_goals simp [h]; try rfl
def lst9 (Y : YD) (P : Nat → List Nat) : Option Nat → Nat
  | none => bks Y 1 P
  | some c => pcn (bo (ahd P c))
def rch (P : Nat → List Nat) : Option Nat → Bool
  | none => decide (es P = 0)
  | some c => decide (bo (ahd P c) = 0)
theorem ahd_lt {P : Nat → List Nat} (hP : st_ok P) (c : Nat) : ∀ x ∈ ahd P c, x < 6 := by
  intro x hx
  unfold ahd at hx
  split at hx
  · cases hx
  · rename_i k hk
    exact (st_row hP (lnof_lt hk).1).2 x ((List.takeWhile_subset _) hx)
theorem c_isReached (l : Launch) (S : qSt) {y : Nat} {w : Int32} {g : Option Nat} (hS : SO S y w g) {P : Nat → List Nat} (hP : st_ok P) : q_Met q_mt l 3 k_X5_isReached 1 [.inr (.inr (29, 0)), .inr (.inl (lN (es P)))] S (fun r S' => r = some (.inl (bI (rch P g))) ∧ S' = S) := by
  refine q_meth zoX5_isReached q_fos (Nat.le_of_ble_eq_true rfl) ?_
  intro AT step
  refine step 20 [] 0 _ _ _ ?_
  simp only [q_vcs, q_vcc, q_vl, q_vu, ↓reduceIte, Nat.reduceEqDiff, Bool.false_eq_true, q_isc, q_mk, q_msk, zbX5_isReached, q_pad, q_ent, q_get, q_put, q_nl, q_w, List.cons_append, List.nil_append, q_aks, q_als, Nat.reduceAdd, Nat.reduceLeDiff, Nat.zero_le, true_and, and_true, Option.some.injEq, Sum.inl.injEq, Sum.inr.injEq, true_or, or_true, and_self, q_sw]
  rw [hS.2.2.1]
  cases hg : g with
  | none =>
    refine ⟨fun h => absurd rfl h, fun _ => ?_⟩
    have e0 : lg_cmp (lN (es P)) 0 = 0 ↔ es P = 0 := l_cmp0 (by have := es_lt hP; omega)
    rw [e0]
    refine ⟨fun h => ?_, fun h => ?_⟩
    all_goals simp [rch, h, bI]; try rfl
  | some c =>
    have hc := hS.2.2.2 c hg
    refine ⟨fun _ => ?_, fun h => absurd h (i_ne1 (n := c) (by omega))⟩
    refine q_u1 (by decide) (c_aheadOf l S hP (c := c) (by omega)) ?_
    have hb := bo_lt (ahd_lt hP c)
    rw [show (0 : Int32) = nI 0 from rfl, nI_eq (by omega) (by decide)]
    refine ⟨fun h => ?_, fun h => ?_⟩
    all_goals simp [rch, h, bI]; try rfl
theorem c_leastFrom (l : Launch) (S : qSt) {y : Nat} {w : Int32} {g : Option Nat} {Y : YD} (hS : SO S y w g) (hY : y_ok Y) (hO : YO S y Y) {P : Nat → List Nat} (hP : p_ok Y P) : q_Met q_mt l 3 k_X5_leastFrom 1 [.inr (.inr (29, 0)), .inr (.inl (lN (es P)))] S (fun r S' => r = some (.inl (nI (lst9 Y P g))) ∧ S' = S) := by
  refine q_meth zoX5_leastFrom q_fos (Nat.le_of_ble_eq_true rfl) ?_
  intro AT step
  refine step 20 [] 0 _ _ _ ?_
  simp only [q_vcs, q_vcc, q_vl, q_vu, ↓reduceIte, Nat.reduceEqDiff, Bool.false_eq_true, q_isc, q_mk, q_msk, zbX5_leastFrom, q_pad, q_ent, q_get, q_put, q_nl, q_w, List.cons_append, List.nil_append, q_aks, q_als, Nat.reduceAdd, Nat.reduceLeDiff, Nat.zero_le, true_and, and_true, Option.some.injEq, Sum.inl.injEq, Sum.inr.injEq, true_or, or_true, and_self, q_sw]
  rw [hS.2.2.1, hS.1]
  cases hg : g with
  | none =>
    refine ⟨fun h => absurd rfl h, fun _ => ?_⟩
    exact q_u1 (by decide) (c_blockings l S hY hO hP (b := 1) (by decide)) (by first | trivial | rfl | exact ⟨rfl, rfl⟩)
  | some c =>
    have hc := hS.2.2.2 c hg
    have hb := bo_lt (ahd_lt hP.1 c)
    refine ⟨fun _ => ?_, fun h => absurd h (i_ne1 (n := c) (by omega))⟩
    refine q_u1 (by decide) (c_aheadOf l S hP.1 (c := c) (by omega)) ?_
    exact q_u1 (by decide) (c_bitCount l S (n := bo (ahd P c)) (by omega)) (by first | trivial | rfl | exact ⟨rfl, rfl⟩)
