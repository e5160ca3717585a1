/-! Stand: the cars of a row, of a stand; slots -/
def bo : List Nat → Nat
  | [] => 0
  | c :: r => 2 ^ c ||| bo r
def cb : Nat → Nat → Nat
  | 0, _ => 0
  | m + 1, n => 2 ^ (n % 8) ||| cb m (n / 8)
theorem cb_0 : ∀ m, cb m 0 / 2 = 0
  | 0 => rfl
  | m + 1 => by
    rw [cb, Nat.or_div_two]
    simp [cb_0 m]
theorem cb_lt : ∀ m n, cb m n < 256
  | 0, n => by simp [cb]
  | m + 1, n => by
    rw [cb]
    have h1 := cb_lt m (n / 8)
    have h2 : 2 ^ (n % 8) < 2 ^ 8 := Nat.pow_lt_pow_right (by decide) (Nat.mod_lt _ (by decide))
    exact Nat.or_lt_two_pow (n := 8) h2 h1
theorem i_one : ∀ k, k < 8 → (1 : Int32) <<< ((nI k) &&& 31) = nI (2 ^ k) := by decide +kernel
theorem i_shr1 {n : Nat} (h : n < 2 ^ 31) : nI n >>> ((1 : Int32) &&& 31) = nI (n / 2) := pk_shrN h 1 1 (by decide)
theorem l_cmp0 {n : Nat} (h : n < 2 ^ 63) : lg_cmp (lN n) 0 = 0 ↔ n = 0 := by
  have e : (0 : Int64) = lN 0 := rfl
  unfold lg_cmp
  rw [e]
  by_cases h1 : lN n > lN 0
  · rw [if_pos h1]
    have := (pk_lLT (by decide) h).mp h1
    constructor
    · intro q; cases q
    · intro q; omega
  · rw [if_neg h1]
    have h2 : ¬ 0 < n := fun q => h1 ((pk_lLT (by decide) h).mpr q)
    rw [show n = 0 by omega]
    simp
theorem l_shr3 {n : Nat} (h : n < 2 ^ 64) : ((lN n).toUInt64 >>> ((3 : Int32).toInt64.toUInt64 &&& Int64.toUInt64 63)).toInt64 = lN (n / 8) := wb_shr (k := 3) h (by decide)
theorem c_carsInN (l : Launch) (S : qSt) {n M : Nat} (hn : n < 8 ^ M) (hm : M ≤ 18) : q_Met q_mt l 1 k_X7_carsIn 1 [.inr (.inl (lN n))] S (fun r S' => r = some (.inl (nI (cb M n / 2))) ∧ S' = S) := by
  refine q_meth zoX7_carsIn q_fos (Nat.le_of_ble_eq_true rfl) ?_
  intro AT step
  have hL : ∀ (m n2 b : Nat), m ≤ 18 → n2 < 8 ^ m → b < 256 → (b ||| cb m n2) / 2 = cb M n / 2 → AT 1 [some (Sum.inr (Sum.inl (lN n))), none, some (Sum.inl (nI b)), some (Sum.inr (Sum.inl (lN n2))), none] [] S := by
    intro m
    induction m with
    | zero =>
      intro n2 b _ h1 h2 h3
      have : n2 = 0 := by simp at h1; exact h1
      subst this
      refine step 20 [(1, [true, true, true, true, true])] 1 _ _ _ ?_
      simp only [q_vcs, q_vcc, q_vl, q_vu, ↓reduceIte, Nat.reduceEqDiff, Bool.false_eq_true, q_isc, q_mk, q_msk, zbX7_carsIn, q_pad, q_ent, q_get, q_put, q_nl, q_w, List.cons_append, List.nil_append, q_aks, q_als, Nat.reduceAdd, Nat.reduceLeDiff, Nat.zero_le, true_and, and_true, Option.some.injEq, Sum.inl.injEq, Sum.inr.injEq, true_or, or_true, and_self, q_sw]
      rw [l_cmp0 (by decide)]
      refine ⟨fun _ => ?_, fun h => absurd rfl h⟩
      rw [i_shr1 (by omega), ← h3]
      simp [cb]
    | succ m ih =>
      intro n2 b hm h1 h2 h3
      have h18 : (8 : Nat) ^ (m + 1) ≤ 8 ^ 18 := Nat.pow_le_pow_right (by decide) hm
      refine step 20 [(1, [true, true, true, true, true])] 1 _ _ _ ?_
      simp only [q_vcs, q_vcc, q_vl, q_vu, ↓reduceIte, Nat.reduceEqDiff, Bool.false_eq_true, q_isc, q_mk, q_msk, zbX7_carsIn, q_pad, q_ent, q_get, q_put, q_nl, q_w, List.cons_append, List.nil_append, q_aks, q_als, Nat.reduceAdd, Nat.reduceLeDiff, Nat.zero_le, true_and, and_true, Option.some.injEq, Sum.inl.injEq, Sum.inr.injEq, true_or, or_true, and_self, q_sw]
      rw [l_cmp0 (by omega)]
      refine ⟨fun h => ?_, fun h => ?_⟩
      · subst h
        rw [i_shr1 (by omega), ← h3, Nat.or_div_two, cb_0, Nat.or_zero]
      · rw [lN_i, i_mask7, i_one _ (Nat.mod_lt _ (by decide)), fa_or, l_shr3 (by omega)]
        refine ih (n2 / 8) (b ||| 2 ^ (n2 % 8)) (by omega) (by rw [Nat.pow_succ] at h1; omega) ?_ ?_
        · exact Nat.or_lt_two_pow (n := 8) h2 (Nat.pow_lt_pow_right (by decide) (Nat.mod_lt _ (by decide)))
        · rw [← h3, cb, Nat.or_assoc]
  refine step 20 [(1, [true, true, true, true, true])] 0 _ _ _ ?_
  simp only [q_vcs, q_vcc, q_vl, q_vu, ↓reduceIte, Nat.reduceEqDiff, Bool.false_eq_true, q_isc, q_mk, q_msk, zbX7_carsIn, q_pad, q_ent, q_get, q_put, q_nl, q_w, List.cons_append, List.nil_append, q_aks, q_als, Nat.reduceAdd, Nat.reduceLeDiff, Nat.zero_le, true_and, and_true, Option.some.injEq, Sum.inl.injEq, Sum.inr.injEq, true_or, or_true, and_self, q_sw]
  exact hL M n 0 hm hn (by decide) (by simp)
theorem bo_lt : ∀ {r : List Nat}, (∀ c ∈ r, c < 6) → bo r < 64
  | [], _ => by simp [bo]
  | c :: r, h => by
    have h1 := bo_lt (r := r) (fun x hx => h x (List.mem_cons_of_mem _ hx))
    have h2 : 2 ^ c < 2 ^ 6 := Nat.pow_lt_pow_right (by decide) (h c List.mem_cons_self)
    exact Nat.or_lt_two_pow (n := 6) h2 h1
theorem cb_er : ∀ {r : List Nat} {m : Nat}, (∀ c ∈ r, c < 6) → r.length ≤ m → cb m (er r) / 2 = bo r
  | [], m, _, _ => cb_0 m
  | c :: r, 0, h, hm => by simp at hm
  | c :: r, m + 1, h, hm => by
    have hc := h c List.mem_cons_self
    have e1 : er (c :: r) % 8 = c + 1 := by simp only [er]; omega
    have e2 : er (c :: r) / 8 = er r := er_tl h
    rw [cb, e1, e2, Nat.or_div_two, cb_er (fun x hx => h x (List.mem_cons_of_mem _ hx)) (by simp at hm; omega), bo]
    congr 1
    rw [Nat.pow_succ]
    omega
theorem cb_add : ∀ {m k a b : Nat}, a < 8 ^ m → cb (m + k) (a + 8 ^ m * b) = cb m a ||| cb k b
  | 0, k, a, b, h => by
    have : a = 0 := by simp at h; exact h
    subst this
    simp [cb]
  | m + 1, k, a, b, h => by
    have e : m + 1 + k = (m + k) + 1 := by omega
    have h1 : (a + 8 ^ (m + 1) * b) % 8 = a % 8 := by
      rw [Nat.pow_succ, Nat.mul_comm (8 ^ m) 8, Nat.mul_assoc]
      omega
    have h2 : (a + 8 ^ (m + 1) * b) / 8 = a / 8 + 8 ^ m * b := by
      rw [Nat.pow_succ, Nat.mul_comm (8 ^ m) 8, Nat.mul_assoc]
      omega
    rw [e, cb, h1, h2, cb_add (by rw [Nat.pow_succ] at h; omega), cb, Nat.or_assoc]
def bs (P : Nat → List Nat) : Nat := bo (P 0) ||| (bo (P 1) ||| bo (P 2))
theorem cb_es {P : Nat → List Nat} (h : st_ok P) : cb 18 (es P) / 2 = bs P := by
  have h0 := er_18 h.1
  have h1 := er_18 h.2.1
  have h2 := er_18 h.2.2
  have e : es P = er (P 0) + 8 ^ 6 * (er (P 1) + 8 ^ 6 * er (P 2)) := by unfold es; omega
  rw [e, cb_add (m := 6) (k := 12) (by omega), cb_add (m := 6) (k := 6) (by omega), Nat.or_div_two, Nat.or_div_two, cb_er h.1.2 h.1.1, cb_er h.2.1.2 h.2.1.1, cb_er h.2.2.2 h.2.2.1]
  rfl
theorem c_carsIn (l : Launch) (S : qSt) {P : Nat → List Nat} (hP : st_ok P) : q_Met q_mt l 1 k_X7_carsIn 1 [.inr (.inl (lN (es P)))] S (fun r S' => r = some (.inl (nI (bs P))) ∧ S' = S) := by
  have h := es_lt hP
  have := c_carsInN l S (n := es P) (M := 18) (by omega) (by decide)
  rw [cb_es hP] at this
  exact this
theorem c_carsInRow (l : Launch) (S : qSt) {r : List Nat} (hr : rw_ok r) : q_Met q_mt l 1 k_X7_carsIn 1 [.inr (.inl (lN (er r)))] S (fun v S' => v = some (.inl (nI (bo r))) ∧ S' = S) := by
  have h := er_18 hr
  have := c_carsInN l S (n := er r) (M := 6) (by omega) (by decide)
  rw [cb_er hr.2 hr.1] at this
  exact this
/-! slots -/
def sl (n t : Nat) : Option Nat := (List.range' 0 18).find? (fun i => decide (n / 8 ^ i % 8 = t))
theorem l_dig {n i : Nat} (hn : n < 2 ^ 54) (hi : i < 18) : ((lN n).toUInt64 >>> (((3 : Int32) * nI i).toInt64.toUInt64 &&& Int64.toUInt64 63)).toInt64.toInt32 &&& 7 = nI (n / 8 ^ i % 8) := by
  have e : (3 : Int32) * nI i = nI (3 * i) := by rw [← pk_mul]; rfl
  rw [e, wb_shr (by omega) (by omega), lN_i, i_mask7, Nat.pow_mul]
theorem c_slotOf (l : Launch) (S : qSt) {n c : Nat} (hn : n < 2 ^ 54) (hc : c < 2 ^ 20) : q_Met q_mt l 1 k_X7_slotOf 1 [.inr (.inl (lN n)), .inl (nI c)] S (fun r S' => r = some (.inl (oI (sl n (c + 1)))) ∧ S' = S) := by
  refine q_meth zoX7_slotOf q_fos (Nat.le_of_ble_eq_true rfl) ?_
  intro AT step
  have hL : ∀ (k i : Nat), i + k = 18 → (List.range' i k).find? (fun i => decide (n / 8 ^ i % 8 = c + 1)) = sl n (c + 1) → AT 1 [some (Sum.inr (Sum.inl (lN n))), none, some (Sum.inl (nI c)), some (Sum.inl (nI i))] [] S := by
    intro k
    induction k with
    | zero =>
      intro i hi hs
      refine step 20 [(1, [true, true, true, true])] 1 _ _ _ ?_
      simp only [q_vcs, q_vcc, q_vl, q_vu, ↓reduceIte, Nat.reduceEqDiff, Bool.false_eq_true, q_isc, q_mk, q_msk, zbX7_slotOf, q_pad, q_ent, q_get, q_put, q_nl, q_w, List.cons_append, List.nil_append, q_aks, q_als, Nat.reduceAdd, Nat.reduceLeDiff, Nat.zero_le, true_and, and_true, Option.some.injEq, Sum.inl.injEq, Sum.inr.injEq, true_or, or_true, and_self, q_sw]
      refine ⟨fun _ => ?_, fun h => absurd (by rw [show i = 18 by omega]; decide) h⟩
      rw [← hs]
      rfl
    | succ k ih =>
      intro i hi hs
      refine step 20 [(1, [true, true, true, true])] 1 _ _ _ ?_
      simp only [q_vcs, q_vcc, q_vl, q_vu, ↓reduceIte, Nat.reduceEqDiff, Bool.false_eq_true, q_isc, q_mk, q_msk, zbX7_slotOf, q_pad, q_ent, q_get, q_put, q_nl, q_w, List.cons_append, List.nil_append, q_aks, q_als, Nat.reduceAdd, Nat.reduceLeDiff, Nat.zero_le, true_and, and_true, Option.some.injEq, Sum.inl.injEq, Sum.inr.injEq, true_or, or_true, and_self, q_sw]
      rw [l_dig hn (by omega), nI_1, nI_1]
      refine ⟨fun h => ?_, fun _ => ⟨fun h => ?_, fun _ => ⟨fun h => ?_, fun h => ?_⟩⟩⟩
      · rw [show (18 : Int32) = nI 18 from rfl, nI_leI (by decide) (by omega)] at h
        omega
      · exact absurd h (nI_pos (by omega))
      · rw [nI_eq (by have := Nat.mod_lt (n / 8 ^ i) (show 0 < 8 by decide); omega) (by omega)] at h
        refine ih (i + 1) (by omega) ?_
        rw [← hs, List.range'_succ, List.find?_cons_of_neg (by simpa using h)]
      · rw [nI_eq (by have := Nat.mod_lt (n / 8 ^ i) (show 0 < 8 by decide); omega) (by omega)] at h
        rw [← hs, List.range'_succ, List.find?_cons_of_pos (by simpa using h)]
        rfl
  refine step 20 [(1, [true, true, true, true])] 0 _ _ _ ?_
  simp only [q_vcs, q_vcc, q_vl, q_vu, ↓reduceIte, Nat.reduceEqDiff, Bool.false_eq_true, q_isc, q_mk, q_msk, zbX7_slotOf, q_pad, q_ent, q_get, q_put, q_nl, q_w, List.cons_append, List.nil_append, q_aks, q_als, Nat.reduceAdd, Nat.reduceLeDiff, Nat.zero_le, true_and, and_true, Option.some.injEq, Sum.inl.injEq, Sum.inr.injEq, true_or, or_true, and_self, q_sw]
  exact hL 18 0 rfl rfl
