/-! BlockedCars$Stand: lanes as lists of cars, the front first -/
theorem i_pos {n : Nat} (h : n < 2 ^ 31) : (nI n).toInt = n := nI_toInt h
/-- a row: three bits a car -/
def er : List Nat → Nat
  | [] => 0
  | c :: r => (c + 1) + 8 * er r
def es (P : Nat → List Nat) : Nat := er (P 0) + 262144 * er (P 1) + 68719476736 * er (P 2)
/-- a row that can stand -/
def rw_ok (r : List Nat) : Prop := r.length ≤ 6 ∧ ∀ c ∈ r, c < 6
theorem er_lt : ∀ {r : List Nat}, (∀ c ∈ r, c < 6) → er r < 8 ^ r.length
  | [], _ => by simp [er]
  | c :: r, h => by
    have h1 := er_lt (r := r) (fun x hx => h x (List.mem_cons_of_mem _ hx))
    have h2 := h c List.mem_cons_self
    simp only [er, List.length_cons, Nat.pow_succ]
    omega
theorem er_18 {r : List Nat} (h : rw_ok r) : er r < 262144 := by
  have h1 := er_lt h.2
  have h2 : (8 : Nat) ^ r.length ≤ 8 ^ 6 := Nat.pow_le_pow_right (by decide) h.1
  omega
def st_ok (P : Nat → List Nat) : Prop := rw_ok (P 0) ∧ rw_ok (P 1) ∧ rw_ok (P 2)
theorem es_lt {P : Nat → List Nat} (h : st_ok P) : es P < 2 ^ 54 := by
  have h0 := er_18 h.1
  have h1 := er_18 h.2.1
  have h2 := er_18 h.2.2
  unfold es
  omega
theorem es_row {P : Nat → List Nat} (h : st_ok P) {k : Nat} (hk : k < 3) : es P / 2 ^ (18 * k) % 2 ^ 18 = er (P k) := by
  have h0 := er_18 h.1
  have h1 := er_18 h.2.1
  have h2 := er_18 h.2.2
  unfold es
  match k, hk with
  | 0, _ => omega
  | 1, _ => omega
  | 2, _ => omega
theorem st_row {P : Nat → List Nat} (h : st_ok P) {k : Nat} (hk : k < 3) : rw_ok (P k) := by
  match k, hk with
  | 0, _ => exact h.1
  | 1, _ => exact h.2.1
  | 2, _ => exact h.2.2
theorem i_mask (n : Nat) : nI n &&& 262143 = nI (n % 2 ^ 18) := by
  have := fa_mask n 18
  simpa [fa_lit] using this
theorem i_mask7 (n : Nat) : nI n &&& 7 = nI (n % 8) := by
  have := fa_mask n 3
  simpa [fa_lit] using this
theorem c_rowOf (l : Launch) (S : qSt) {P : Nat → List Nat} (hP : st_ok P) {k : Nat} (hk : k < 3) : q_Met q_mt l 1 k_X7_rowOf 1 [.inr (.inl (lN (es P))), .inl (nI k)] S (fun r S' => r = some (.inl (nI (er (P k)))) ∧ S' = S) := by
  refine q_meth zoX7_rowOf q_fos (Nat.le_of_ble_eq_true rfl) ?_
  intro AT step
  refine step 20 [] 0 _ _ _ ?_
  simp only [q_vcs, q_vcc, q_vl, q_vu, ↓reduceIte, Nat.reduceEqDiff, Bool.false_eq_true, q_isc, q_mk, q_msk, zbX7_rowOf, q_pad, q_ent, q_get, q_put, q_nl, q_w, List.cons_append, List.nil_append, q_aks, q_als, Nat.reduceAdd, Nat.reduceLeDiff, Nat.zero_le, true_and, and_true, Option.some.injEq, Sum.inl.injEq, Sum.inr.injEq, true_or, or_true, and_self, q_sw]
  have e : (18 : Int32) * nI k = nI (18 * k) := by rw [← pk_mul]; rfl
  rw [e, wb_shr (Nat.lt_trans (es_lt hP) (by decide)) (by omega), lN_i, i_mask, es_row hP hk]
theorem c_frontOf (l : Launch) (S : qSt) {P : Nat → List Nat} (hP : st_ok P) {k : Nat} (hk : k < 3) : q_Met q_mt l 2 k_X7_frontOf 1 [.inr (.inl (lN (es P))), .inl (nI k)] S (fun r S' => r = some (.inl (nI (er (P k) % 8) - 1)) ∧ S' = S) := by
  refine q_meth zoX7_frontOf q_fos (Nat.le_of_ble_eq_true rfl) ?_
  intro AT step
  refine step 20 [] 0 _ _ _ ?_
  simp only [q_vcs, q_vcc, q_vl, q_vu, ↓reduceIte, Nat.reduceEqDiff, Bool.false_eq_true, q_isc, q_mk, q_msk, zbX7_frontOf, q_pad, q_ent, q_get, q_put, q_nl, q_w, List.cons_append, List.nil_append, q_aks, q_als, Nat.reduceAdd, Nat.reduceLeDiff, Nat.zero_le, true_and, and_true, Option.some.injEq, Sum.inl.injEq, Sum.inr.injEq, true_or, or_true, and_self, q_sw]
  refine q_u1 (by decide) (c_rowOf l S hP hk) ?_
  simp only [i_mask7, and_self]
