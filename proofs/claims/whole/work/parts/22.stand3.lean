/-! Stand: where a car is, who is ahead, a car away; Integer.bitCount -/
def ixo (c : Nat) : List Nat → Option Nat
  | [] => none
  | x :: r => if x = c then some 0 else (ixo c r).map (· + 1)
def lnof (P : Nat → List Nat) (c : Nat) : Option Nat := if c ∈ P 0 then some 0 else if c ∈ P 1 then some 1 else if c ∈ P 2 then some 2 else none
def ahd (P : Nat → List Nat) (c : Nat) : List Nat := match lnof P c with
  | none => []
  | some k => (P k).takeWhile (fun x => decide (x ≠ c))
theorem ixo_none {c : Nat} : ∀ {r : List Nat}, ixo c r = none ↔ c ∉ r
  | [] => by simp [ixo]
  | x :: r => by
    unfold ixo
    by_cases h : x = c
    · simp [h]
    · have := ixo_none (c := c) (r := r)
      simp [h, this, Ne.symm h]
theorem ixo_some {c : Nat} : ∀ {r : List Nat} {i : Nat}, ixo c r = some i → i < r.length ∧ r.take i = r.takeWhile (fun x => decide (x ≠ c)) ∧ r.eraseIdx i = r.erase c ∧ c ∈ r
  | [], i, h => by cases h
  | x :: r, i, h => by
    unfold ixo at h
    by_cases e : x = c
    · rw [if_pos e] at h
      cases h
      subst e
      simp
    · rw [if_neg e] at h
      cases hr : ixo c r with
      | none => rw [hr] at h; cases h
      | some j =>
        rw [hr] at h
        cases h
        obtain ⟨h1, h2, h3, h4⟩ := ixo_some hr
        refine ⟨by simp; omega, ?_, ?_, List.mem_cons_of_mem _ h4⟩
        · rw [List.take_succ_cons, h2, List.takeWhile_cons, if_pos (by simpa using e)]
        · rw [List.eraseIdx_cons_succ, h3, List.erase_cons_tail (by simpa using e)]
theorem fd_row {N c : Nat} : ∀ {m s : Nat} {r : List Nat}, (∀ x ∈ r, x < 6) → r.length ≤ m → N / 8 ^ s % 8 ^ m = er r → (List.range' s m).find? (fun i => decide (N / 8 ^ i % 8 = c + 1)) = (ixo c r).map (s + ·)
  | 0, s, [], _, _, _ => rfl
  | 0, s, x :: r, _, h, _ => by simp at h
  | m + 1, s, r, h6, hl, he => by
    have d1 : N / 8 ^ s % 8 = er r % 8 := by
      rw [← he, Nat.pow_succ, Nat.mod_mul_left_mod]
    have d2 : N / 8 ^ (s + 1) % 8 ^ m = er r.tail := by
      rw [← er_tl h6, ← he, Nat.pow_succ, ← Nat.div_div_eq_div_mul, Nat.pow_succ, Nat.mul_comm (8 ^ m) 8, Nat.mod_mul_right_div_self]
    have ih := fd_row (N := N) (c := c) (m := m) (s := s + 1) (r := r.tail) (fun x hx => h6 x (List.mem_of_mem_tail hx)) (by simp; omega) d2
    rw [List.range'_succ]
    cases r with
    | nil =>
      rw [List.find?_cons_of_neg (by simp [d1, er]), ih]
      rfl
    | cons x r =>
      have hx := h6 x List.mem_cons_self
      have e : er (x :: r) % 8 = x + 1 := by simp only [er]; omega
      by_cases hxc : x = c
      · subst hxc
        rw [List.find?_cons_of_pos (by simp [d1, e])]
        simp [ixo]
      · rw [List.find?_cons_of_neg (by simp [d1, e, hxc]), ih]
        simp only [ixo, hxc, if_false, List.tail_cons, Option.map_map]
        congr 1
        funext i
        simp
        omega
theorem sl_es {P : Nat → List Nat} (h : st_ok P) (c : Nat) : sl (es P) (c + 1) = match ixo c (P 0) with
    | some i => some i
    | none => match ixo c (P 1) with
      | some i => some (6 + i)
      | none => (ixo c (P 2)).map (12 + ·) := by
  have h0 := er_18 h.1
  have h1 := er_18 h.2.1
  have h2 := er_18 h.2.2
  have r0 := es_row h (k := 0) (by decide)
  have r1 := es_row h (k := 1) (by decide)
  have r2 := es_row h (k := 2) (by decide)
  have f0 := fd_row (N := es P) (c := c) (m := 6) (s := 0) h.1.2 h.1.1 (by simpa using r0)
  have f1 := fd_row (N := es P) (c := c) (m := 6) (s := 6) h.2.1.2 h.2.1.1 (by simpa using r1)
  have f2 := fd_row (N := es P) (c := c) (m := 6) (s := 12) h.2.2.2 h.2.2.1 (by simpa using r2)
  unfold sl
  rw [show List.range' 0 18 = List.range' 0 6 ++ (List.range' 6 6 ++ List.range' 12 6) from rfl, List.find?_append, List.find?_append, f0, f1, f2]
  cases ixo c (P 0) with
  | some i => simp
  | none =>
    cases ixo c (P 1) with
    | some i => simp
    | none => simp
/-- a car's slot: its lane, its place from the front -/
theorem sl_cases {P : Nat → List Nat} (h : st_ok P) (c : Nat) : (lnof P c = none ∧ sl (es P) (c + 1) = none ∧ c ∉ P 0 ∧ c ∉ P 1 ∧ c ∉ P 2) ∨ ∃ k i, k < 3 ∧ i < 6 ∧ lnof P c = some k ∧ sl (es P) (c + 1) = some (6 * k + i) ∧ ixo c (P k) = some i ∧ c ∈ P k := by
  rw [sl_es h]
  unfold lnof
  cases e0 : ixo c (P 0) with
  | some i =>
    have := ixo_some e0
    have := h.1.1
    refine Or.inr ⟨0, i, by decide, by omega, by simp [*], by simp, e0, by simp [*]⟩
  | none =>
    have n0 := ixo_none.mp e0
    cases e1 : ixo c (P 1) with
    | some i =>
      have := ixo_some e1
      have := h.2.1.1
      refine Or.inr ⟨1, i, by decide, by omega, by simp [*], by simp, e1, by simp [*]⟩
    | none =>
      have n1 := ixo_none.mp e1
      cases e2 : ixo c (P 2) with
      | some i =>
        have := ixo_some e2
        have := h.2.2.1
        refine Or.inr ⟨2, i, by decide, by omega, by simp [*], by simp, e2, by simp [*]⟩
      | none =>
        have n2 := ixo_none.mp e2
        exact Or.inl ⟨by simp [*], rfl, n0, n1, n2⟩
theorem i_ne1 {n : Nat} (h : n < 2 ^ 31) : ¬ nI n = -1 := by
  intro q
  have := congrArg Int32.toInt q
  rw [nI_toInt h] at this
  have e : (-1 : Int32).toInt = -1 := by decide
  rw [e] at this
  omega
theorem i_div {a d : Nat} (ha : a < 2 ^ 31) (h0 : 0 < d) (hd : d < 2 ^ 31) : nI a / nI d = nI (a / d) := pk_div ha h0 hd
theorem c_laneOf (l : Launch) (S : qSt) {P : Nat → List Nat} (hP : st_ok P) {c : Nat} (hc : c < 2 ^ 20) : q_Met q_mt l 2 k_X7_laneOf 1 [.inr (.inl (lN (es P))), .inl (nI c)] S (fun r S' => r = some (.inl (oI (lnof P c))) ∧ S' = S) := by
  refine q_meth zoX7_laneOf q_fos (Nat.le_of_ble_eq_true rfl) ?_
  intro AT step
  refine step 20 [] 0 _ _ _ ?_
  simp only [q_vcs, q_vcc, q_vl, q_vu, ↓reduceIte, Nat.reduceEqDiff, Bool.false_eq_true, q_isc, q_mk, q_msk, zbX7_laneOf, q_pad, q_ent, q_get, q_put, q_nl, q_w, List.cons_append, List.nil_append, q_aks, q_als, Nat.reduceAdd, Nat.reduceLeDiff, Nat.zero_le, true_and, and_true, Option.some.injEq, Sum.inl.injEq, Sum.inr.injEq, true_or, or_true, and_self, q_sw]
  refine q_u1 (by decide) (c_slotOf l S (es_lt hP) hc) ?_
  rcases sl_cases hP c with ⟨h1, h2, -⟩ | ⟨k, i, hk, hi, h1, h2, -⟩
  · rw [h1, h2]
    exact ⟨fun h => absurd rfl h, fun _ => ⟨rfl, rfl⟩⟩
  · rw [h1, h2]
    refine ⟨fun _ => ⟨by decide, ?_, rfl⟩, fun h => absurd h (i_ne1 (by omega))⟩
    show nI (6 * k + i) / nI 6 = nI k
    rw [i_div (by omega) (by decide) (by decide)]
    congr 1
    omega
theorem i_rem {a d : Nat} (ha : a < 2 ^ 31) (h0 : 0 < d) (hd : d < 2 ^ 31) : nI a - nI a / nI d * nI d = nI (a % d) := pk_rem ha h0 hd
theorem i_sh : ∀ k, k < 31 → (1 : Int32) <<< ((nI k) &&& 31) - 1 = nI (2 ^ k - 1) := by decide +kernel
theorem er_take : ∀ {r : List Nat} {i : Nat}, (∀ c ∈ r, c < 6) → er r % 8 ^ i = er (r.take i)
  | [], i, _ => by simp [er]
  | c :: r, 0, _ => by simp [er]; omega
  | c :: r, i + 1, h => by
    have hc := h c List.mem_cons_self
    have ih := er_take (r := r) (i := i) (fun x hx => h x (List.mem_cons_of_mem _ hx))
    rw [List.take_succ_cons, er, er, ← ih, Nat.pow_succ, Nat.mul_comm (8 ^ i) 8, Nat.mod_mul, show (c + 1 + 8 * er r) / 8 = er r by omega]
    omega
theorem er_drop : ∀ {r : List Nat} {i : Nat}, (∀ c ∈ r, c < 6) → er r / 8 ^ i = er (r.drop i)
  | [], i, _ => by simp [er]
  | c :: r, 0, _ => by simp [er]
  | c :: r, i + 1, h => by
    have hc := h c List.mem_cons_self
    have ih := er_drop (r := r) (i := i) (fun x hx => h x (List.mem_cons_of_mem _ hx))
    rw [List.drop_succ_cons, ← ih, Nat.pow_succ, Nat.mul_comm (8 ^ i) 8, ← Nat.div_div_eq_div_mul, er_tl h, List.tail_cons]
theorem er_app : ∀ {a b : List Nat}, er (a ++ b) = er a + 8 ^ a.length * er b
  | [], b => by simp [er]
  | c :: a, b => by
    have := er_app (a := a) (b := b)
    simp only [List.cons_append, er, List.length_cons, this, Nat.pow_succ]
    rw [Nat.mul_add, ← Nat.mul_assoc, Nat.mul_comm 8 (8 ^ a.length)]
    omega
theorem rw_take {r : List Nat} {i : Nat} (h : rw_ok r) : rw_ok (r.take i) := ⟨by have := h.1; simp; omega, fun c hc => h.2 c (List.mem_of_mem_take hc)⟩
theorem c_aheadOf (l : Launch) (S : qSt) {P : Nat → List Nat} (hP : st_ok P) {c : Nat} (hc : c < 2 ^ 20) : q_Met q_mt l 2 k_X7_aheadOf 1 [.inr (.inl (lN (es P))), .inl (nI c)] S (fun r S' => r = some (.inl (nI (bo (ahd P c)))) ∧ S' = S) := by
  refine q_meth zoX7_aheadOf q_fos (Nat.le_of_ble_eq_true rfl) ?_
  intro AT step
  refine step 20 [] 0 _ _ _ ?_
  simp only [q_vcs, q_vcc, q_vl, q_vu, ↓reduceIte, Nat.reduceEqDiff, Bool.false_eq_true, q_isc, q_mk, q_msk, zbX7_aheadOf, q_pad, q_ent, q_get, q_put, q_nl, q_w, List.cons_append, List.nil_append, q_aks, q_als, Nat.reduceAdd, Nat.reduceLeDiff, Nat.zero_le, true_and, and_true, Option.some.injEq, Sum.inl.injEq, Sum.inr.injEq, true_or, or_true, and_self, q_sw]
  refine q_u1 (by decide) (c_slotOf l S (es_lt hP) hc) ?_
  unfold ahd
  rcases sl_cases hP c with ⟨h1, h2, -⟩ | ⟨k, i, hk, hi, h1, h2, h3, -⟩
  · rw [h1, h2]
    exact ⟨fun h => absurd rfl h, fun _ => ⟨rfl, rfl⟩⟩
  · rw [h1, h2]
    have hr := st_row hP hk
    refine ⟨fun _ => ⟨by decide, by decide, ?_⟩, fun h => absurd h (i_ne1 (by omega))⟩
    have e1 : oI (some (6 * k + i)) / 6 = nI k := by
      show nI (6 * k + i) / nI 6 = nI k
      rw [i_div (by omega) (by decide) (by decide)]
      congr 1
      omega
    have e2 : (3 : Int32) * (oI (some (6 * k + i)) - oI (some (6 * k + i)) / 6 * 6) = nI (3 * i) := by
      show nI 3 * (nI (6 * k + i) - nI (6 * k + i) / nI 6 * nI 6) = _
      rw [i_rem (by omega) (by decide) (by decide), pk_mul]
      congr 1
      omega
    rw [e2, e1]
    refine q_u1 (by decide) (c_rowOf l S hP hk) ?_
    rw [i_sh _ (by omega), fa_mask, Nat.pow_mul, er_take hr.2, nI_l (by have := er_18 (rw_take (i := i) hr); omega), (ixo_some h3).2.1]
    have hra := rw_take (i := i) hr
    rw [(ixo_some h3).2.1] at hra
    exact q_u1 (by decide) (c_carsInRow l S hra) ⟨rfl, rfl⟩
theorem i_or {a b k : Nat} (h : a < 2 ^ k) : nI (b * 2 ^ k) ||| nI a = nI (a + 2 ^ k * b) := by
  have := fa_or_sum (a := a) (k := k) b h
  rw [Nat.mul_comm, this]
  congr 1
  omega
theorem i_shrN {n k : Nat} (hn : n < 2 ^ 31) (hk : k < 32) : ((nI n).toUInt32 >>> ((nI k).toUInt32 &&& Int32.toUInt32 31)).toInt32 = nI (n / 2 ^ k) := pk_ushrN (by omega) _ k (s_u k hk)
theorem i_shlN {n k : Nat} (hn : n * 2 ^ k < 2 ^ 32) (hk : k < 32) : nI n <<< (nI k &&& 31) = nI (n * 2 ^ k) := pk_shlN _ k (s_l k hk) hn
theorem rw_erase {r : List Nat} {c : Nat} (h : rw_ok r) : rw_ok (r.erase c) := ⟨Nat.le_trans (List.length_erase_le) h.1, fun x hx => h.2 x (List.mem_of_mem_erase hx)⟩
theorem c_takeAway (l : Launch) (S : qSt) {P : Nat → List Nat} (hP : st_ok P) {c k : Nat} (hc : c < 2 ^ 20) (hk : lnof P c = some k) : q_Met q_mt l 2 k_X7_takeAway 2 [.inr (.inl (lN (es P))), .inl (nI c)] S (fun r S' => r = some (.inr (.inl (lN (es (sp P k ((P k).erase c)))))) ∧ S' = S) := by
  refine q_meth zoX7_takeAway q_fos (Nat.le_of_ble_eq_true rfl) ?_
  intro AT step
  refine step 20 [] 0 _ _ _ ?_
  simp only [q_vcs, q_vcc, q_vl, q_vu, ↓reduceIte, Nat.reduceEqDiff, Bool.false_eq_true, q_isc, q_mk, q_msk, zbX7_takeAway, q_pad, q_ent, q_get, q_put, q_nl, q_w, List.cons_append, List.nil_append, q_aks, q_als, Nat.reduceAdd, Nat.reduceLeDiff, Nat.zero_le, true_and, and_true, Option.some.injEq, Sum.inl.injEq, Sum.inr.injEq, true_or, or_true, and_self, q_sw]
  refine q_u1 (by decide) (c_slotOf l S (es_lt hP) hc) ?_
  rcases sl_cases hP c with ⟨h1, h2, -⟩ | ⟨k', i, hk', hi, h1, h2, h3, -⟩
  · rw [h1] at hk; cases hk
  · have hkk : k' = k := Option.some.inj (h1.symm.trans hk)
    subst hkk
    rw [h2]
    have hr := st_row hP hk'
    refine ⟨fun _ => ⟨by decide, ?_⟩, fun h => absurd h (i_ne1 (by omega))⟩
    have e1 : oI (some (6 * k' + i)) / 6 = nI k' := by
      show nI (6 * k' + i) / nI 6 = nI k'
      rw [i_div (by omega) (by decide) (by decide)]
      congr 1
      omega
    have e2 : (3 : Int32) * (oI (some (6 * k' + i)) - oI (some (6 * k' + i)) / 6 * 6) = nI (3 * i) := by
      show nI 3 * (nI (6 * k' + i) - nI (6 * k' + i) / nI 6 * nI 6) = _
      rw [i_rem (by omega) (by decide) (by decide), pk_mul]
      congr 1
      omega
    rw [e2, e1]
    refine q_u1 (by decide) (c_rowOf l S hP hk') ⟨by decide, ?_⟩
    have e3 : nI (3 * i) + 3 = nI (3 * i + 3) := by rw [show (3 : Int32) = nI 3 from rfl, nI_add]
    have h18 := er_18 hr
    have hd : er (P k') / 8 ^ (i + 1) = er ((P k').drop (i + 1)) := er_drop hr.2
    have hlt : er (P k') / 8 ^ (i + 1) * 8 ^ i ≤ er (P k') := by
      rw [Nat.pow_succ, ← Nat.div_div_eq_div_mul]
      have := Nat.div_mul_le_self (er (P k')) (8 ^ i)
      have h8 : er (P k') / 8 ^ i / 8 ≤ er (P k') / 8 ^ i := Nat.div_le_self _ _
      exact Nat.le_trans (Nat.mul_le_mul_right _ h8) this
    have hm : er (P k') % 8 ^ i < 8 ^ i := Nat.mod_lt _ (Nat.pow_pos (by decide))
    have p1 : (2 : Nat) ^ (3 * i) = 8 ^ i := Nat.pow_mul 2 3 i
    have p2 : (2 : Nat) ^ (3 * i + 3) = 8 ^ (i + 1) := by rw [show 3 * i + 3 = 3 * (i + 1) by omega, Nat.pow_mul]
    rw [i_sh _ (by omega), fa_mask, e3, i_shrN (by omega) (by omega), p2, i_shlN (by rw [p1]; omega) (by omega), p1, ← p1, i_or (by rw [p1]; exact hm), p1]
    have key : er (P k') % 8 ^ i + 8 ^ i * (er (P k') / 8 ^ (i + 1)) = er ((P k').erase c) := by
      obtain ⟨g1, g2, g3, -⟩ := ixo_some h3
      rw [er_take hr.2, hd, ← g3, List.eraseIdx_eq_take_drop_succ, er_app, List.length_take, Nat.min_eq_left (Nat.le_of_lt g1)]
    rw [key]
    exact q_u2 (by decide) (c_withRow l S hP hk' (rw_erase hr)) ⟨rfl, rfl⟩
def pcn (n : Nat) : Nat := fa_cnt (fun i => n.testBit i) 12
def bcn (n : Nat) : Int32 := (let a := nI n - (((nI n).toUInt32 >>> ((1 : Int32).toUInt32 &&& Int32.toUInt32 31)).toInt32 &&& 1431655765); let b := (a &&& 858993459) + ((a.toUInt32 >>> ((2 : Int32).toUInt32 &&& Int32.toUInt32 31)).toInt32 &&& 858993459); let c := (b + (b.toUInt32 >>> ((4 : Int32).toUInt32 &&& Int32.toUInt32 31)).toInt32) &&& 252645135; let d := c + (c.toUInt32 >>> ((8 : Int32).toUInt32 &&& Int32.toUInt32 31)).toInt32; (d + (d.toUInt32 >>> ((16 : Int32).toUInt32 &&& Int32.toUInt32 31)).toInt32) &&& 63)
theorem bit_tab2 : ∀ a, a < 64 → ∀ b, b < 64 → bcn (64 * a + b) = nI (pcn (64 * a + b)) := by decide +kernel
theorem bit_tab (n : Nat) (h : n < 4096) : bcn n = nI (pcn n) := by
  have := bit_tab2 (n / 64) (by omega) (n % 64) (by omega)
  rwa [show 64 * (n / 64) + n % 64 = n by omega] at this
theorem c_bitCount (l : Launch) (S : qSt) {n : Nat} (hn : n < 4096) : q_Met q_mt l 1 k_J6_bitCount_0f7a4 1 [.inl (nI n)] S (fun r S' => r = some (.inl (nI (pcn n))) ∧ S' = S) := by
  refine q_meth zoJ6_bitCount_0f7a4 q_fos (Nat.le_of_ble_eq_true rfl) ?_
  intro AT step
  refine step 20 [] 0 _ _ _ ?_
  simp only [q_vcs, q_vcc, q_vl, q_vu, ↓reduceIte, Nat.reduceEqDiff, Bool.false_eq_true, q_isc, q_mk, q_msk, zbJ6_bitCount_0f7a4, q_pad, q_ent, q_get, q_put, q_nl, q_w, List.cons_append, List.nil_append, q_aks, q_als, Nat.reduceAdd, Nat.reduceLeDiff, Nat.zero_le, true_and, and_true, Option.some.injEq, Sum.inl.injEq, Sum.inr.injEq, true_or, or_true, and_self, q_sw]
  exact bit_tab n hn
