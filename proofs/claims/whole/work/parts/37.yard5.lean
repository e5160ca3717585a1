/-! Yard: the car on a place, its first place -/
/-- cars from the wall on: who stands on place p -/
def onw (Y : YD) : List Nat → Int → Int → Option Nat
  | [], _, _ => none
  | c :: w, a, p => if a ≤ p ∧ p < a + lgt Y c then some c else onw Y w (a + lgt Y c) p
def onp (Y : YD) (P : Nat → List Nat) (k : Nat) (p : Int) : Option Nat := onw Y (P k).reverse 0 p
theorem er_dig {r : List Nat} (h : ∀ c ∈ r, c < 6) (i : Nat) : er r / 8 ^ i % 8 = match r[i]? with
    | some c => c + 1
    | none => 0 := by
  rw [er_drop h]
  cases hd : r[i]? with
  | none =>
    rw [List.drop_eq_nil_of_le (List.getElem?_eq_none_iff.mp hd)]
    rfl
  | some c =>
    obtain ⟨hlt, hc⟩ := List.getElem?_eq_some_iff.mp hd
    have hc6 : c < 6 := h c (List.mem_of_getElem? hd)
    rw [List.drop_eq_getElem_cons hlt, hc]
    simp only [er]
    omega
theorem c_carOn (l : Launch) (S : qSt) {y : Nat} {Y : YD} (hY : y_ok Y) (hR : YR S y Y) {P : Nat → List Nat} (hP : st_ok P) {k : Nat} (hk : k < 3) (p : Int32) : q_Met q_mt l 2 k_X9_carOn 1 [.inr (.inr (3, y)), .inr (.inl (lN (es P))), .inl (nI k), .inl p] S (fun r S' => r = some (.inl (oI (onp Y P k p.toInt))) ∧ S' = S) := by
  refine q_meth zoX9_carOn q_fos (Nat.le_of_ble_eq_true rfl) ?_
  intro AT step
  have hr := st_row hP hk
  have h18 := er_18 hr
  have hL : ∀ (m a : Nat), m ≤ 6 → a + 2 * m ≤ 12 → onw Y ((P k).take m).reverse a p.toInt = onp Y P k p.toInt → AT 1 [some (.inr (.inr (3, y))), some (.inr (.inl (lN (es P)))), none, some (.inl (nI k)), some (.inl p), some (.inl (nI (er (P k)))), some (.inl (nI a)), some (.inl (nI (3 * m) - 3)), none, none] [] S := by
    intro m
    induction m with
    | zero =>
      intro a _ ha hs
      refine step 20 [(1, [true, true, true, true, true, true, true, true, false, false])] 1 _ _ _ ?_
      simp only [q_vcs, q_vcc, q_vl, q_vu, ↓reduceIte, Nat.reduceEqDiff, Bool.false_eq_true, q_isc, q_mk, q_msk, zbX9_carOn, q_pad, q_ent, q_get, q_put, q_nl, q_w, List.cons_append, List.nil_append, q_aks, q_als, Nat.reduceAdd, Nat.reduceLeDiff, Nat.zero_le, true_and, and_true, Option.some.injEq, Sum.inl.injEq, Sum.inr.injEq, true_or, or_true, and_self, q_sw]
      refine ⟨fun _ => ?_, fun h => absurd (by decide) h⟩
      rw [← hs]
      rfl
    | succ m ih =>
      intro a hm ha hs
      have e3 : nI (3 * (m + 1)) - 3 = nI (3 * m) := by
        rw [show (3 : Int32) = nI 3 from rfl, pk_sub (by omega)]
        congr 1
      have e4 : nI (3 * m) + -3 = nI (3 * m) - 3 := by rw [Int32.sub_eq_add_neg]
      refine step 20 [(1, [true, true, true, true, true, true, true, true, false, false])] 1 _ _ _ ?_
      simp only [q_vcs, q_vcc, q_vl, q_vu, ↓reduceIte, Nat.reduceEqDiff, Bool.false_eq_true, q_isc, q_mk, q_msk, zbX9_carOn, q_pad, q_ent, q_get, q_put, q_nl, q_w, List.cons_append, List.nil_append, q_aks, q_als, Nat.reduceAdd, Nat.reduceLeDiff, Nat.zero_le, true_and, and_true, Option.some.injEq, Sum.inl.injEq, Sum.inr.injEq, true_or, or_true, and_self, q_sw]
      rw [e3, i_shrN (by omega) (by omega), i_mask7, Nat.pow_mul, e4]
      have hd := er_dig hr.2 m
      rw [show (8 : Nat) = 2 ^ 3 from rfl] at hd
      rw [hd]
      have ih := ih
      refine ⟨fun h => absurd h (nI_pos (by omega)), fun _ => ?_⟩
      cases hg : (P k)[m]? with
      | none =>
        have hge := List.getElem?_eq_none_iff.mp hg
        have e0 : nI (match (none : Option Nat) with | some c => c + 1 | none => 0) - 1 = -1 := by decide
        rw [e0]
        refine q_u1 (by decide) (c_lengthOfN l S) ?_
        rw [nI_add, Nat.add_zero]
        have go := ih a (by omega) (by omega) (by rw [← hs, List.take_of_length_le hge, List.take_of_length_le (by omega)])
        exact ⟨fun _ => go, fun h => ⟨fun _ => go, fun h2 => absurd (Int32.not_lt.mp h) h2⟩⟩
      | some c =>
        obtain ⟨hlt, hce⟩ := List.getElem?_eq_some_iff.mp hg
        have hc6 : c < 6 := hr.2 c (List.mem_of_getElem? hg)
        have e0 : nI (match (some c : Option Nat) with | some c => c + 1 | none => 0) - 1 = nI c := i_m1 c
        rw [e0]
        have hl2 := lgt_le hY c
        refine q_u1 (by decide) (c_lengthOf l S hY hR (k := c) (by omega)) ?_
        rw [nI_add]
        have hs2 : (if (a : Int) ≤ p.toInt ∧ p.toInt < a + lgt Y c then some c else onw Y ((P k).take m).reverse (a + lgt Y c) p.toInt) = onp Y P k p.toInt := by
          rw [← hs, List.take_succ_eq_append_getElem hlt, List.reverse_append, hce]
          rfl
        rw [fa_lt, fa_le, nI_toInt (by omega), nI_toInt (by omega)]
        have go := ih (a + lgt Y c) (by omega) (by omega)
        refine ⟨fun h => go ?_, fun h => ⟨fun h2 => go ?_, fun h2 => ?_⟩⟩
        · rw [if_neg (by omega)] at hs2
          rw [← hs2]
          congr 1
        · rw [if_neg (by omega)] at hs2
          rw [← hs2]
          congr 1
        · rw [if_pos (by omega)] at hs2
          rw [← hs2]
          exact ⟨rfl, rfl⟩
  refine step 20 [(1, [true, true, true, true, true, true, true, true, false, false])] 0 _ _ _ ?_
  simp only [q_vcs, q_vcc, q_vl, q_vu, ↓reduceIte, Nat.reduceEqDiff, Bool.false_eq_true, q_isc, q_mk, q_msk, zbX9_carOn, q_pad, q_ent, q_get, q_put, q_nl, q_w, List.cons_append, List.nil_append, q_aks, q_als, Nat.reduceAdd, Nat.reduceLeDiff, Nat.zero_le, true_and, and_true, Option.some.injEq, Sum.inl.injEq, Sum.inr.injEq, true_or, or_true, and_self, q_sw]
  refine q_u1 (by decide) (c_rowOf l S hP hk) ?_
  refine hL 6 0 (by decide) (by decide) ?_
  rw [List.take_of_length_le hr.1]
  rfl
