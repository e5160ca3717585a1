/-! BlockedCars$Stand: lanes as lists of cars, the front first -/
/-- a row: three bits a car -/
def er : List Nat → Nat
  | [] => 0
  | c :: r => (c + 1) + 8 * er r
def es (P : Nat → List Nat) : Nat := er (P 0) + 262144 * er (P 1) + 68719476736 * er (P 2)
/-- a row that can stand -/
def rw_ok (r : List Nat) : Prop := r.length ≤ 6 ∧ ∀ c ∈ r, c < 6
theorem er_lt : ∀ {r : List Nat}, (∀ c ∈ r, c < 6) → er r < 8 ^ r.length
  | [], _ => by simp [er]
  | c :: r, h => by
    have h1 := er_lt (r := r) (fun x hx => h x (List.mem_cons_of_mem _ hx))
    have h2 := h c List.mem_cons_self
    simp only [er, List.length_cons, Nat.pow_succ]
    omega
theorem er_18 {r : List Nat} (h : rw_ok r) : er r < 262144 := by
  have h1 := er_lt h.2
  have h2 : (8 : Nat) ^ r.length ≤ 8 ^ 6 := Nat.pow_le_pow_right (by decide) h.1
  omega
def st_ok (P : Nat → List Nat) : Prop := rw_ok (P 0) ∧ rw_ok (P 1) ∧ rw_ok (P 2)
theorem es_lt {P : Nat → List Nat} (h : st_ok P) : es P < 2 ^ 54 := by
  have h0 := er_18 h.1
  have h1 := er_18 h.2.1
  have h2 := er_18 h.2.2
  unfold es
  omega
theorem es_row {P : Nat → List Nat} (h : st_ok P) {k : Nat} (hk : k < 3) : es P / 2 ^ (18 * k) % 2 ^ 18 = er (P k) := by
  have h0 := er_18 h.1
  have h1 := er_18 h.2.1
  have h2 := er_18 h.2.2
  unfold es
  match k, hk with
  | 0, _ => omega
  | 1, _ => omega
  | 2, _ => omega
theorem st_row {P : Nat → List Nat} (h : st_ok P) {k : Nat} (hk : k < 3) : rw_ok (P k) := by
  match k, hk with
  | 0, _ => exact h.1
  | 1, _ => exact h.2.1
  | 2, _ => exact h.2.2
def sp (P : Nat → List Nat) (k : Nat) (r : List Nat) : Nat → List Nat := fun j => if j = k then r else P j
theorem sp_ok {P : Nat → List Nat} (h : st_ok P) {k : Nat} {r : List Nat} (hr : rw_ok r) : st_ok (sp P k r) := by
  refine ⟨?_, ?_, ?_⟩ <;> unfold sp <;> split
  · exact hr
  · exact h.1
  · exact hr
  · exact h.2.1
  · exact hr
  · exact h.2.2
theorem i_mask (n : Nat) : nI n &&& 262143 = nI (n % 2 ^ 18) := by
  have := fa_mask n 18
  simpa [fa_lit] using this
theorem i_mask7 (n : Nat) : nI n &&& 7 = nI (n % 8) := by
  have := fa_mask n 3
  simpa [fa_lit] using this
/-- a number, or NONE -/
def oI : Option Nat → Int32
  | none => -1
  | some c => nI c
theorem i_m1 (n : Nat) : nI (n + 1) - 1 = nI n := nI_pred n
theorem i_m0 : nI 0 - 1 = -1 := by decide
theorem er_hd {r : List Nat} (h : ∀ c ∈ r, c < 6) : nI (er r % 8) - 1 = oI r.head? := by
  cases r with
  | nil => exact i_m0
  | cons c r =>
    have hc := h c List.mem_cons_self
    rw [show er (c :: r) % 8 = c + 1 by simp only [er]; omega, i_m1]
    rfl
theorem er_tl {r : List Nat} (h : ∀ c ∈ r, c < 6) : er r / 8 = er r.tail := by
  cases r with
  | nil => rfl
  | cons c r =>
    have hc := h c List.mem_cons_self
    simp only [er, List.tail_cons]
    omega
theorem c_rowOf (l : Launch) (S : qSt) {P : Nat → List Nat} (hP : st_ok P) {k : Nat} (hk : k < 3) : q_Met q_mt l 1 k_X7_rowOf 1 [.inr (.inl (lN (es P))), .inl (nI k)] S (fun r S' => r = some (.inl (nI (er (P k)))) ∧ S' = S) := by
  refine q_meth zoX7_rowOf q_fos (Nat.le_of_ble_eq_true rfl) ?_
  intro AT step
  refine step 20 [] 0 _ _ _ ?_
  simp only [q_vcs, q_vcc, q_vl, q_vu, ↓reduceIte, Nat.reduceEqDiff, Bool.false_eq_true, q_isc, q_mk, q_msk, zbX7_rowOf, q_pad, q_ent, q_get, q_put, q_nl, q_w, List.cons_append, List.nil_append, q_aks, q_als, Nat.reduceAdd, Nat.reduceLeDiff, Nat.zero_le, true_and, and_true, Option.some.injEq, Sum.inl.injEq, Sum.inr.injEq, true_or, or_true, and_self, q_sw]
  have e : (18 : Int32) * nI k = nI (18 * k) := by rw [← pk_mul]; rfl
  rw [e, wb_shr (Nat.lt_trans (es_lt hP) (by decide)) (by omega), lN_i, i_mask, es_row hP hk]
theorem c_frontOf (l : Launch) (S : qSt) {P : Nat → List Nat} (hP : st_ok P) {k : Nat} (hk : k < 3) : q_Met q_mt l 2 k_X7_frontOf 1 [.inr (.inl (lN (es P))), .inl (nI k)] S (fun r S' => r = some (.inl (oI (P k).head?)) ∧ S' = S) := by
  refine q_meth zoX7_frontOf q_fos (Nat.le_of_ble_eq_true rfl) ?_
  intro AT step
  refine step 20 [] 0 _ _ _ ?_
  simp only [q_vcs, q_vcc, q_vl, q_vu, ↓reduceIte, Nat.reduceEqDiff, Bool.false_eq_true, q_isc, q_mk, q_msk, zbX7_frontOf, q_pad, q_ent, q_get, q_put, q_nl, q_w, List.cons_append, List.nil_append, q_aks, q_als, Nat.reduceAdd, Nat.reduceLeDiff, Nat.zero_le, true_and, and_true, Option.some.injEq, Sum.inl.injEq, Sum.inr.injEq, true_or, or_true, and_self, q_sw]
  refine q_u1 (by decide) (c_rowOf l S hP hk) ?_
  simp only [i_mask7, and_self, er_hd (st_row hP hk).2]
theorem i_shr3 {n : Nat} (h : n < 2 ^ 31) : ((nI n).toUInt32 >>> (Int32.toUInt32 3 &&& Int32.toUInt32 31)).toInt32 = nI (n / 8) := pk_ushrN (by omega) 3 3 (by decide)
theorem i_shl3 {n : Nat} (h : n < 2 ^ 28) : nI n <<< ((3 : Int32) &&& 31) = nI (n * 8) := pk_shlN _ 3 (by decide) (by omega)
theorem c_carAtWall (l : Launch) (S : qSt) {P : Nat → List Nat} (hP : st_ok P) {k : Nat} (hk : k < 3) : q_Met q_mt l 2 k_X7_carAtWall 1 [.inr (.inl (lN (es P))), .inl (nI k)] S (fun r S' => r = some (.inl (oI (P k).getLast?)) ∧ S' = S) := by
  refine q_meth zoX7_carAtWall q_fos (Nat.le_of_ble_eq_true rfl) ?_
  intro AT step
  have hL : ∀ (r : List Nat) (a : Option Nat), rw_ok r → (P k).getLast? = (match r.getLast? with | some c => some c | none => a) → AT 1 [some (Sum.inr (Sum.inl (lN (es P)))), none, some (Sum.inl (nI k)), some (Sum.inl (oI a)), some (Sum.inl (nI (er r)))] [] S := by
    intro r
    induction r with
    | nil =>
      intro a _ ha
      refine step 20 [(1, [true, true, true, true, true])] 1 _ _ _ ?_
      simp only [q_vcs, q_vcc, q_vl, q_vu, ↓reduceIte, Nat.reduceEqDiff, Bool.false_eq_true, q_isc, q_mk, q_msk, zbX7_carAtWall, q_pad, q_ent, q_get, q_put, q_nl, q_w, List.cons_append, List.nil_append, q_aks, q_als, Nat.reduceAdd, Nat.reduceLeDiff, Nat.zero_le, true_and, and_true, Option.some.injEq, Sum.inl.injEq, Sum.inr.injEq, true_or, or_true, and_self, q_sw]
      refine ⟨fun _ => ?_, fun h => absurd rfl h⟩
      rw [ha]
      rfl
    | cons c r ih =>
      intro a hr ha
      refine step 20 [(1, [true, true, true, true, true])] 1 _ _ _ ?_
      simp only [q_vcs, q_vcc, q_vl, q_vu, ↓reduceIte, Nat.reduceEqDiff, Bool.false_eq_true, q_isc, q_mk, q_msk, zbX7_carAtWall, q_pad, q_ent, q_get, q_put, q_nl, q_w, List.cons_append, List.nil_append, q_aks, q_als, Nat.reduceAdd, Nat.reduceLeDiff, Nat.zero_le, true_and, and_true, Option.some.injEq, Sum.inl.injEq, Sum.inr.injEq, true_or, or_true, and_self, q_sw]
      have hlt := er_18 hr
      refine ⟨fun h => ?_, fun _ => ?_⟩
      · rw [show (0 : Int32) = nI 0 from rfl, nI_eq (by omega) (by decide)] at h
        simp [er] at h
      · rw [i_mask7, i_shr3 (by omega), er_hd hr.2, er_tl hr.2]
        refine ih (some c) ⟨by have := hr.1; simp at this; omega, fun x hx => hr.2 x (List.mem_cons_of_mem _ hx)⟩ ?_
        rw [ha]
        cases r with
        | nil => rfl
        | cons d r => simp [List.getLast?_cons]
  refine step 20 [(1, [true, true, true, true, true])] 0 _ _ _ ?_
  simp only [q_vcs, q_vcc, q_vl, q_vu, ↓reduceIte, Nat.reduceEqDiff, Bool.false_eq_true, q_isc, q_mk, q_msk, zbX7_carAtWall, q_pad, q_ent, q_get, q_put, q_nl, q_w, List.cons_append, List.nil_append, q_aks, q_als, Nat.reduceAdd, Nat.reduceLeDiff, Nat.zero_le, true_and, and_true, Option.some.injEq, Sum.inl.injEq, Sum.inr.injEq, true_or, or_true, and_self, q_sw]
  refine q_u1 (by decide) (c_rowOf l S hP hk) ?_
  refine hL (P k) none (st_row hP hk) ?_
  cases (P k).getLast? <;> rfl
/-! withRow -/
theorem wr_bits {s a b c r : Nat} (ha : a < 2 ^ s) (hb : b < 2 ^ 18) (hr : r < 2 ^ 18) (i : Nat) : (2 ^ s * (2 ^ 18 * c + r) + a).testBit i = (((2 ^ s * (2 ^ 18 * c + b) + a).testBit i && !((2 ^ s * (2 ^ 18 - 1) + 0).testBit i)) || (2 ^ s * r + 0).testBit i) := by
  rw [Nat.testBit_two_pow_mul_add _ ha, Nat.testBit_two_pow_mul_add _ ha, Nat.testBit_two_pow_mul_add _ (Nat.two_pow_pos s), Nat.testBit_two_pow_mul_add _ (Nat.two_pow_pos s)]
  by_cases h : i < s
  · simp [h]
  · simp only [h, if_false]
    rw [Nat.testBit_two_pow_mul_add _ hb, Nat.testBit_two_pow_mul_add _ hr, Nat.testBit_two_pow_sub_one]
    by_cases h2 : i - s < 18
    · simp [h2]
    · have : r.testBit (i - s) = false := Nat.testBit_lt_two_pow (Nat.lt_of_lt_of_le hr (Nat.pow_le_pow_right (by decide) (by omega)))
      simp [h2, this]
theorem lN_bit (n i : Nat) : (lN n).toBitVec.getLsbD i = (decide (i < 64) && n.testBit i) := by
  show (BitVec.ofNat 64 n).getLsbD i = _
  rw [BitVec.getLsbD_ofNat]
theorem L_ext {x y : Int64} (h : ∀ i, i < 64 → x.toBitVec.getLsbD i = y.toBitVec.getLsbD i) : x = y := Int64.toBitVec_inj.mp (BitVec.eq_of_getLsbD_eq (fun i hi => h i hi))
theorem wr_long {s a b c r : Nat} (ha : a < 2 ^ s) (hb : b < 2 ^ 18) (hr : r < 2 ^ 18) : (lN (2 ^ s * (2 ^ 18 * c + b) + a) &&& (lN (2 ^ s * (2 ^ 18 - 1)) ^^^ (-1))) ||| lN (2 ^ s * r) = lN (2 ^ s * (2 ^ 18 * c + r) + a) := by
  refine L_ext fun i hi => ?_
  have hm : (-1 : Int64).toBitVec.getLsbD i = true := by
    have : (-1 : Int64).toBitVec = BitVec.allOnes 64 := by decide
    rw [this, BitVec.getLsbD_allOnes]
    simp [hi]
  have := wr_bits (s := s) (c := c) ha hb hr i
  simp only [Nat.add_zero] at this
  rw [Int64.toBitVec_or, BitVec.getLsbD_or, Int64.toBitVec_and, BitVec.getLsbD_and, Int64.toBitVec_xor, BitVec.getLsbD_xor, hm, lN_bit, lN_bit, lN_bit, lN_bit, this]
  simp [hi]
theorem es_sp {P : Nat → List Nat} (h : st_ok P) {k : Nat} (hk : k < 3) : ∃ a c, a < 2 ^ (18 * k) ∧ es P = 2 ^ (18 * k) * (2 ^ 18 * c + er (P k)) + a ∧ ∀ r, es (sp P k r) = 2 ^ (18 * k) * (2 ^ 18 * c + er r) + a := by
  have h0 := er_18 h.1
  have h1 := er_18 h.2.1
  have h2 := er_18 h.2.2
  match k, hk with
  | 0, _ => exact ⟨0, er (P 1) + 262144 * er (P 2), by decide, by unfold es; omega, fun r => by simp only [es, sp]; simp; omega⟩
  | 1, _ => exact ⟨er (P 0), er (P 2), by omega, by unfold es; omega, fun r => by simp only [es, sp]; simp; omega⟩
  | 2, _ => exact ⟨er (P 0) + 262144 * er (P 1), 0, by omega, by unfold es; omega, fun r => by simp only [es, sp]; simp; omega⟩
theorem c_withRow (l : Launch) (S : qSt) {P : Nat → List Nat} (hP : st_ok P) {k : Nat} (hk : k < 3) {r : List Nat} (hr : rw_ok r) : q_Met q_mt l 1 k_X7_withRow 2 [.inr (.inl (lN (es P))), .inl (nI k), .inl (nI (er r))] S (fun v S' => v = some (.inr (.inl (lN (es (sp P k r))))) ∧ S' = S) := by
  refine q_meth zoX7_withRow q_fos (Nat.le_of_ble_eq_true rfl) ?_
  intro AT step
  refine step 20 [] 0 _ _ _ ?_
  simp only [q_vcs, q_vcc, q_vl, q_vu, ↓reduceIte, Nat.reduceEqDiff, Bool.false_eq_true, q_isc, q_mk, q_msk, zbX7_withRow, q_pad, q_ent, q_get, q_put, q_nl, q_w, List.cons_append, List.nil_append, q_aks, q_als, Nat.reduceAdd, Nat.reduceLeDiff, Nat.zero_le, true_and, and_true, Option.some.injEq, Sum.inl.injEq, Sum.inr.injEq, true_or, or_true, and_self, q_sw]
  have hr18 := er_18 hr
  obtain ⟨a, c, ha, h1, h2⟩ := es_sp hP hk
  have e : (18 : Int32) * nI k = nI (18 * k) := by rw [← pk_mul]; rfl
  have e2 : (262143 : Int64) = lN 262143 := rfl
  rw [e, e2, wb_shl _ (by omega), i_mask, Nat.mod_eq_of_lt (by omega), nI_l (by omega), wb_shl _ (by omega), h1, h2]
  have := wr_long (c := c) (s := 18 * k) (b := er (P k)) (r := er r) ha (er_18 (st_row hP hk)) hr18
  rw [show 262143 * 2 ^ (18 * k) = 2 ^ (18 * k) * (2 ^ 18 - 1) by rw [Nat.mul_comm], Nat.mul_comm (er r), this]
theorem rw_tl {r : List Nat} (h : rw_ok r) : rw_ok r.tail := ⟨by have := h.1; simp; omega, fun c hc => h.2 c (List.mem_of_mem_tail hc)⟩
theorem c_driveOut (l : Launch) (S : qSt) {P : Nat → List Nat} (hP : st_ok P) {k : Nat} (hk : k < 3) : q_Met q_mt l 2 k_X7_driveOut 2 [.inr (.inl (lN (es P))), .inl (nI k)] S (fun v S' => v = some (.inr (.inl (lN (es (sp P k (P k).tail))))) ∧ S' = S) := by
  refine q_meth zoX7_driveOut q_fos (Nat.le_of_ble_eq_true rfl) ?_
  intro AT step
  refine step 20 [] 0 _ _ _ ?_
  simp only [q_vcs, q_vcc, q_vl, q_vu, ↓reduceIte, Nat.reduceEqDiff, Bool.false_eq_true, q_isc, q_mk, q_msk, zbX7_driveOut, q_pad, q_ent, q_get, q_put, q_nl, q_w, List.cons_append, List.nil_append, q_aks, q_als, Nat.reduceAdd, Nat.reduceLeDiff, Nat.zero_le, true_and, and_true, Option.some.injEq, Sum.inl.injEq, Sum.inr.injEq, true_or, or_true, and_self, q_sw]
  refine q_u1 (by decide) (c_rowOf l S hP hk) ?_
  have hr := st_row hP hk
  rw [i_shr3 (by have := er_18 hr; omega), er_tl hr.2]
  exact q_u2 (by decide) (c_withRow l S hP hk (rw_tl hr)) ⟨rfl, rfl⟩
theorem i_or8 {a b : Nat} (hb : b < 8) : nI (a * 8) ||| nI b = nI (b + 8 * a) := by
  have := fa_or_sum (a := b) (k := 3) a hb
  rw [show a * 8 = 2 ^ 3 * a by omega, this]
  congr 1
  omega
theorem c_driveIn (l : Launch) (S : qSt) {P : Nat → List Nat} (hP : st_ok P) {k c : Nat} (hk : k < 3) (hc : c < 6) (hl : (P k).length ≤ 5) : q_Met q_mt l 2 k_X7_driveIn 2 [.inr (.inl (lN (es P))), .inl (nI k), .inl (nI c)] S (fun v S' => v = some (.inr (.inl (lN (es (sp P k (c :: P k)))))) ∧ S' = S) := by
  refine q_meth zoX7_driveIn q_fos (Nat.le_of_ble_eq_true rfl) ?_
  intro AT step
  refine step 20 [] 0 _ _ _ ?_
  simp only [q_vcs, q_vcc, q_vl, q_vu, ↓reduceIte, Nat.reduceEqDiff, Bool.false_eq_true, q_isc, q_mk, q_msk, zbX7_driveIn, q_pad, q_ent, q_get, q_put, q_nl, q_w, List.cons_append, List.nil_append, q_aks, q_als, Nat.reduceAdd, Nat.reduceLeDiff, Nat.zero_le, true_and, and_true, Option.some.injEq, Sum.inl.injEq, Sum.inr.injEq, true_or, or_true, and_self, q_sw]
  refine q_u1 (by decide) (c_rowOf l S hP hk) ?_
  have hr := st_row hP hk
  have hrc : rw_ok (c :: P k) := ⟨by simp; omega, fun x hx => (List.mem_cons.mp hx).elim (fun e => e ▸ hc) (hr.2 x)⟩
  rw [i_shl3 (by have := er_18 hr; omega), nI_1, i_or8 (by omega)]
  exact q_u2 (by decide) (c_withRow l S hP hk hrc) ⟨rfl, rfl⟩
