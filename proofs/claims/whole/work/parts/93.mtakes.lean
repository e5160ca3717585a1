/-! The reference: what is given, the goal, a car taken out of its lane -/
theorem lvl_cut {m : Nat → Nat} {cars b n : Nat} (h : cars < 2 ^ n) (hn : n ≤ 6) : lvl m cars b = fb_sm (fun c => if cars.testBit c then min b (m c) else 0) n := by
  unfold lvl
  have : ∀ k, fb_sm (fun c => if cars.testBit c then min b (m c) else 0) (n + k) = fb_sm (fun c => if cars.testBit c then min b (m c) else 0) n := by
    intro k
    induction k with
    | zero => rfl
    | succ k ih =>
      rw [← Nat.add_assoc, fb_sm_succ, ih, if_neg (by rw [Nat.testBit_lt_two_pow (Nat.lt_of_lt_of_le h (Nat.pow_le_pow_right (by decide) (Nat.le_add_right n k)))]; decide), Nat.add_zero]
  have := this (6 - n)
  rw [show n + (6 - n) = 6 by omega] at this
  exact this
theorem c_mgivenBy (l : Launch) (S : qSt) {cars b : Nat} {Y : YD} {V : PV} (hY : y_ok Y) (hM : MY S Y) (hV : RV S 0 V) (hm : ∀ c, c < 6 → V.2.2 c < 2 ^ 31) (hc : cars < 2 ^ Y 1 0) (hb : b < 2 ^ 31) : q_Met q_mt l 1 k_X11_givenBy 1 [.inr (.inr (40, 0)), .inl (nI cars), .inl (nI b)] S (fun v S' => v = some (.inl (nI (lvl V.2.2 cars b))) ∧ S' = S) := by
  have h6 := hY.2.1
  have h64 : (2 : Nat) ^ Y 1 0 ≤ 2 ^ 6 := Nat.pow_le_pow_right (by decide) h6
  refine q_meth zoX11_givenBy q_fos (Nat.le_of_ble_eq_true rfl) ?_
  intro AT step
  have t1 : q_I S 44 0 (Int32.toNatClampNeg 1) = nI (Y 1 0) := hM.2.1
  have hL : ∀ (k i : Nat), i + k = Y 1 0 → AT 1 [some (.inr (.inr (40, 0))), some (.inl (nI cars)), some (.inl (nI b)), some (.inl (nI (fb_sm (fun c => if cars.testBit c then min b (V.2.2 c) else 0) i))), some (.inl (nI i))] [] S := by
    intro k
    induction k with
    | zero =>
      intro i hi
      refine step 40 [(1, [true, true, true, true, true])] 1 _ _ _ ?_
      simp only [q_vcs, q_vcc, q_vl, q_vu, ↓reduceIte, Nat.reduceEqDiff, Bool.false_eq_true, q_isc, q_mk, q_msk, zbX11_givenBy, q_pad, q_ent, q_get, q_put, q_nl, q_w, List.cons_append, List.nil_append, q_aks, q_als, Nat.reduceAdd, Nat.reduceLeDiff, Nat.zero_le, true_and, and_true, Option.some.injEq, Sum.inl.injEq, Sum.inr.injEq, true_or, or_true, and_self, q_sw]
      rw [t1, nI_leI (by omega) (by omega)]
      refine ⟨i_in (k := 1) (by decide) (by decide), fun _ => ?_, fun h => absurd (by omega) h⟩
      rw [lvl_cut hc h6, show i = Y 1 0 by omega]
    | succ k ih =>
      intro i hi
      have ih := ih (i + 1) (by omega)
      rw [fb_sm_succ] at ih
      have hv := hV.2.1 i (by omega)
      refine step 40 [(1, [true, true, true, true, true])] 1 _ _ _ ?_
      simp only [q_vcs, q_vcc, q_vl, q_vu, ↓reduceIte, Nat.reduceEqDiff, Bool.false_eq_true, q_isc, q_mk, q_msk, zbX11_givenBy, q_pad, q_ent, q_get, q_put, q_nl, q_w, List.cons_append, List.nil_append, q_aks, q_als, Nat.reduceAdd, Nat.reduceLeDiff, Nat.zero_le, true_and, and_true, Option.some.injEq, Sum.inl.injEq, Sum.inr.injEq, true_or, or_true, and_self, q_sw]
      rw [t1, nI_leI (by omega) (by omega), show (21 : Int32) + nI i = nI (21 + i) by rw [show (21 : Int32) = nI 21 from rfl, nI_add], i_cl (by omega), nI_1]
      refine ⟨i_in (k := 1) (by decide) (by decide), fun h => absurd h (by omega), fun _ => ?_⟩
      refine q_u1 (by decide) (c_mhas l S (n := cars) (k := i) (by omega) (by omega)) ?_
      rw [bI_0]
      rw [hv]
      refine ⟨fun h => ?_, fun h => ⟨i_in (by omega) (by decide), ?_⟩⟩
      · rw [if_neg (by simp [h])] at ih
        rw [show (0 : Int32) = nI 0 from rfl, nI_add]
        exact ih
      · refine q_u1 (by decide) (c_mless l S (nI b) (nI (V.2.2 i))) ?_
        rw [if_pos (by simpa using h)] at ih
        have e : (if nI b < nI (V.2.2 i) then nI b else nI (V.2.2 i)) = nI (min b (V.2.2 i)) := by
          rw [i_min (a := V.2.2 i) (b := b) (hm i (by omega)) hb, Nat.min_comm]
        rw [e, nI_add]
        exact ih
  refine step 40 [(1, [true, true, true, true, true])] 0 _ _ _ ?_
  simp only [q_vcs, q_vcc, q_vl, q_vu, ↓reduceIte, Nat.reduceEqDiff, Bool.false_eq_true, q_isc, q_mk, q_msk, zbX11_givenBy, q_pad, q_ent, q_get, q_put, q_nl, q_w, List.cons_append, List.nil_append, q_aks, q_als, Nat.reduceAdd, Nat.reduceLeDiff, Nat.zero_le, true_and, and_true, Option.some.injEq, Sum.inl.injEq, Sum.inr.injEq, true_or, or_true, and_self, q_sw]
  exact hL (Y 1 0) 0 (by omega)
/-- a goal: the yard empty, or a car at its lane's front -/
def igl (P : Nat → List Nat) : Option Nat → Bool
  | none => decide (bs P = 0)
  | some c => match lnof P c with
    | none => false
    | some j => decide ((P j).head? = some c)
theorem c_misGoalN (l : Launch) (S : qSt) {i : Nat} {Y : YD} {P : Nat → List Nat} (hY : y_ok Y) (hM : MY S Y) (hP : p_ok Y P) (hR : RW1 S i P) (hb : bs P < 64) : q_Met q_mt l 2 k_X11_isGoal 1 [.inr (.inr (40, 0)), .inr (.inr (65, i)), .inl (-1)] S (fun r S' => r = some (.inl (bI (igl P none))) ∧ S' = S) := by
  refine q_meth zoX11_isGoal q_fos (Nat.le_of_ble_eq_true rfl) ?_
  intro AT step
  refine step 20 [] 0 _ _ _ ?_
  simp only [q_vcs, q_vcc, q_vl, q_vu, ↓reduceIte, Nat.reduceEqDiff, Bool.false_eq_true, q_isc, q_mk, q_msk, zbX11_isGoal, q_pad, q_ent, q_get, q_put, q_nl, q_w, List.cons_append, List.nil_append, q_aks, q_als, Nat.reduceAdd, Nat.reduceLeDiff, Nat.zero_le, true_and, and_true, Option.some.injEq, Sum.inl.injEq, Sum.inr.injEq, true_or, or_true, and_self, q_sw]
  refine ⟨fun h => absurd trivial h, fun _ => ?_⟩
  refine q_u1 (by decide) (c_minsideOf l S hY hM hP hR) ?_
  rw [show (0 : Int32) = nI 0 from rfl, nI_eq (by omega) (by decide)]
  refine ⟨fun h => ?_, fun h => ?_⟩
  all_goals simp [igl, h, bI]; try rfl
theorem c_misGoal (l : Launch) (S : qSt) {i c j : Nat} {Y : YD} {P : Nat → List Nat} (hY : y_ok Y) (hM : MY S Y) (hP : p_ok Y P) (hR : RW1 S i P) (hl : lnof P c = some j) : q_Met q_mt l 2 k_X11_isGoal 1 [.inr (.inr (40, 0)), .inr (.inr (65, i)), .inl (nI c)] S (fun r S' => r = some (.inl (bI (igl P (some c)))) ∧ S' = S) := by
  obtain ⟨hj3, hcm⟩ := lnof_lt hl
  have hc6 := (st_row hP.1 hj3).2 c hcm
  refine q_meth zoX11_isGoal q_fos (Nat.le_of_ble_eq_true rfl) ?_
  intro AT step
  refine step 20 [] 0 _ _ _ ?_
  simp only [q_vcs, q_vcc, q_vl, q_vu, ↓reduceIte, Nat.reduceEqDiff, Bool.false_eq_true, q_isc, q_mk, q_msk, zbX11_isGoal, q_pad, q_ent, q_get, q_put, q_nl, q_w, List.cons_append, List.nil_append, q_aks, q_als, Nat.reduceAdd, Nat.reduceLeDiff, Nat.zero_le, true_and, and_true, Option.some.injEq, Sum.inl.injEq, Sum.inr.injEq, true_or, or_true, and_self, q_sw]
  refine ⟨fun _ => ?_, fun h => absurd h (i_ne1 (by omega))⟩
  refine q_u1 (by decide) (c_mlaneOf l S hY hM hP hR (c := c) (by omega)) ?_
  rw [hl]
  refine q_u1 (by decide) (c_mfrontOf l S hP.1 hR hj3) ?_
  have e : oI (P j).head? = nI c ↔ (P j).head? = some c := oI_eq (b := some c) (fun x hx => by
    have := (st_row hP.1 hj3).2 x (List.mem_of_mem_head? hx)
    omega) (fun x hx => by cases hx; omega)
  rw [e]
  refine ⟨fun h => ?_, fun h => ?_⟩
  all_goals simp [igl, hl, h, bI]; try rfl
def shl (L : List Nat) (r z : Nat) : List Nat := ((List.range L.length).map (fun k => if r ≤ k ∧ k < z then L.reverse.getD (k + 1) 0 else L.reverse.getD k 0)).reverse
theorem shl_len (L : List Nat) (r z : Nat) : (shl L r z).length = L.length := by simp [shl]
theorem shl_get {L : List Nat} {r z k : Nat} (hk : k < L.length) : (shl L r z).reverse.getD k 0 = if r ≤ k ∧ k < z then L.reverse.getD (k + 1) 0 else L.reverse.getD k 0 := by
  unfold shl
  rw [List.reverse_reverse, List.getD_eq_getElem?_getD, List.getElem?_map, List.getElem?_range hk]
  rfl
theorem rev_getD_mem {L : List Nat} {k : Nat} (hk : k < L.length) : L.reverse.getD k 0 ∈ L := by
  rw [List.getD_eq_getElem?_getD, List.getElem?_eq_getElem (by simpa using hk)]
  exact List.mem_reverse.mp (List.getElem_mem _)
theorem shl_ok {L : List Nat} {r z : Nat} (h : rw_ok L) (hz : z < L.length) : rw_ok (shl L r z) := by
  refine ⟨by rw [shl_len]; exact h.1, fun c hc => ?_⟩
  unfold shl at hc
  rw [List.mem_reverse, List.mem_map] at hc
  obtain ⟨k, hk, e⟩ := hc
  rw [List.mem_range] at hk
  rw [← e]
  split
  · exact h.2 _ (rev_getD_mem (by omega))
  · exact h.2 _ (rev_getD_mem hk)
theorem rev_ext {L M : List Nat} (hl : L.length = M.length) (h : ∀ k, k < L.length → L.reverse.getD k 0 = M.reverse.getD k 0) : L = M := by
  refine List.reverse_inj.mp (List.ext_getElem (by simpa using hl) fun k h1 h2 => ?_)
  have := h k (by simpa using h1)
  rw [List.getD_eq_getElem?_getD, List.getD_eq_getElem?_getD, List.getElem?_eq_getElem h1, List.getElem?_eq_getElem h2] at this
  exact this
theorem shl_0 (L : List Nat) (r : Nat) : shl L r r = L := by
  refine rev_ext (shl_len L r r) fun k hk => ?_
  rw [shl_len] at hk
  rw [shl_get hk, if_neg (by omega)]
theorem shl_end {A t : List Nat} {c : Nat} : (shl (A ++ c :: t) t.length (A.length + t.length)).tail = A ++ t := by
  have hlen : (A ++ c :: t).length = A.length + t.length + 1 := by simp; omega
  have e : (shl (A ++ c :: t) t.length (A.length + t.length)).tail = ((List.range (A.length + t.length)).map (fun k => if t.length ≤ k ∧ k < A.length + t.length then (A ++ c :: t).reverse.getD (k + 1) 0 else (A ++ c :: t).reverse.getD k 0)).reverse := by
    unfold shl
    rw [hlen, List.range_succ, List.map_append, List.reverse_append]
    rfl
  rw [e]
  refine rev_ext (by simp) fun k hk => ?_
  simp only [List.length_reverse, List.length_map, List.length_range] at hk
  rw [List.reverse_reverse, List.getD_eq_getElem?_getD, List.getElem?_map, List.getElem?_range hk]
  simp only [Option.map_some, Option.getD_some, List.reverse_append, List.reverse_cons, List.append_assoc, List.getD_eq_getElem?_getD]
  by_cases h : t.length ≤ k
  · rw [if_pos ⟨h, hk⟩, List.getElem?_append_right (by simp; omega), List.getElem?_append_right (by simp; omega), List.getElem?_append_right (by simp; omega)]
    simp only [List.length_reverse, List.length_singleton]
    rw [show k + 1 - t.length - 1 = k - t.length by omega]
  · rw [if_neg (by omega), List.getElem?_append_left (by simp; omega), List.getElem?_append_left (by simp; omega)]
theorem rw1_sh {S : qSt} {i j r z : Nat} {P : Nat → List Nat} (hP : st_ok P) (hj : j < 3) (hz : z + 1 < (P j).length) (hr : r ≤ z) (hR : RW1 S i (sp P j (shl (P j) r z))) : RW1 (q_wI S 65 i (3 + 6 * j + z) (nI ((P j).reverse.getD (z + 1) 0))) i (sp P j (shl (P j) r (z + 1))) := by
  intro k hk
  have h6 := (st_row hP hk).1
  have h6j := (st_row hP hj).1
  have hk2 := hR k hk
  by_cases e : k = j
  · subst e
    simp only [sp, if_true, shl_len] at hk2 ⊢
    refine ⟨?_, fun q hq => ?_⟩
    · rw [q_I_wI, if_neg (by omega)]; exact hk2.1
    · rw [shl_get hq, q_I_wI]
      by_cases e2 : q = z
      · subst e2
        rw [if_pos ⟨rfl, rfl, rfl⟩, if_pos (by omega)]
      · rw [if_neg (by omega), hk2.2 q hq, shl_get hq]
        by_cases e3 : r ≤ q ∧ q < z
        · rw [if_pos e3, if_pos (by omega)]
        · rw [if_neg e3, if_neg (by omega)]
  · simp only [sp, if_neg e] at hk2 ⊢
    refine ⟨?_, fun q hq => ?_⟩
    · rw [q_I_wI, if_neg (by omega)]; exact hk2.1
    · rw [q_I_wI, if_neg (by omega)]; exact hk2.2 q hq
theorem c_mtakesOut (l : Launch) (S : qSt) {i c j : Nat} {A t : List Nat} {Y : YD} {P : Nat → List Nat} (hY : y_ok Y) (hM : MY S Y) (hP : p_ok Y P) (hR : RW1 S i P) (hl : lnof P c = some j) (hA : P j = A ++ c :: t) : q_Met q_mt l 3 k_X11_takesOut 0 [.inr (.inr (40, 0)), .inr (.inr (65, i)), .inl (nI c)] S (fun _ S' => RW1 S' i (sp P j (A ++ t)) ∧ (∀ q, 21 ≤ q → q_I S' 65 i q = q_I S 65 i q) ∧ fr (Fm i) S S') := by
  obtain ⟨hj3, hcm⟩ := lnof_lt hl
  have hrow := st_row hP.1 hj3
  have hc6 := hrow.2 c hcm
  have hlen : (P j).length = A.length + t.length + 1 := by rw [hA]; simp; omega
  have h6 := hrow.1
  have hnd : (A ++ c :: t).Nodup := by rw [← hA]; exact p_nd hP hj3
  have e1m : nI (P j).length - 1 = nI ((P j).length - 1) := by rw [hlen]; exact i_m1 _
  refine q_meth zoX11_takesOut q_fos (Nat.le_of_ble_eq_true rfl) ?_
  intro AT step
  have hL : ∀ (k z : Nat) (S1 : qSt), z + k = A.length + t.length → t.length ≤ z → RW1 S1 i (sp P j (shl (P j) t.length z)) → (∀ q, 21 ≤ q → q_I S1 65 i q = q_I S 65 i q) → fr (Fm i) S S1 → AT 1 [some (.inr (.inr (40, 0))), some (.inr (.inr (65, i))), some (.inl (nI c)), some (.inl (nI j)), some (.inl (nI z))] [] S1 := by
    intro k
    induction k with
    | zero =>
      intro z S1 hz hz1 hR1 hq1 hf1
      have esp : sp P j (shl (P j) t.length z) j = shl (P j) t.length z := by simp [sp]
      have r1 := (hR1 j hj3).1
      rw [esp, shl_len] at r1
      have hok : st_ok (sp P j (shl (P j) t.length z)) := sp_ok hP.1 (shl_ok hrow (by omega))
      have hout := rw1_out hok hR1 hj3 (by rw [esp]; intro q; have := congrArg List.length q; rw [shl_len, hlen] at this; simp at this)
      rw [esp, sp_same, shl_len, show z = A.length + t.length by omega, hA, shl_end, ← hA] at hout
      refine step 40 [(1, [true, true, true, true, true])] 1 _ _ _ ?_
      simp only [q_vcs, q_vcc, q_vl, q_vu, ↓reduceIte, Nat.reduceEqDiff, Bool.false_eq_true, q_isc, q_mk, q_msk, zbX11_takesOut, q_pad, q_ent, q_get, q_put, q_nl, q_w, List.cons_append, List.nil_append, q_aks, q_als, Nat.reduceAdd, Nat.reduceLeDiff, Nat.zero_le, true_and, and_true, Option.some.injEq, Sum.inl.injEq, Sum.inr.injEq, true_or, or_true, and_self, q_sw]
      rw [i_0, i_cl (by omega), r1, e1m, nI_leI (by omega) (by omega)]
      refine ⟨i_in (by omega) (by decide), fun _ => ⟨i_in (by omega) (by decide), i_in (by omega) (by decide), ?_⟩, fun h => absurd (by omega) h⟩
      exact ⟨hout, fun q hq => by rw [q_I_wI, if_neg (by omega)]; exact hq1 q hq, fr.wI hf1 ⟨rfl, rfl⟩⟩
    | succ k ih =>
      intro z S1 hz hz1 hR1 hq1 hf1
      have esp : sp P j (shl (P j) t.length z) j = shl (P j) t.length z := by simp [sp]
      have r1 := (hR1 j hj3).1
      rw [esp, shl_len] at r1
      have hok : st_ok (sp P j (shl (P j) t.length z)) := sp_ok hP.1 (shl_ok hrow (by omega))
      refine step 40 [(1, [true, true, true, true, true])] 1 _ _ _ ?_
      simp only [q_vcs, q_vcc, q_vl, q_vu, ↓reduceIte, Nat.reduceEqDiff, Bool.false_eq_true, q_isc, q_mk, q_msk, zbX11_takesOut, q_pad, q_ent, q_get, q_put, q_nl, q_w, List.cons_append, List.nil_append, q_aks, q_als, Nat.reduceAdd, Nat.reduceLeDiff, Nat.zero_le, true_and, and_true, Option.some.injEq, Sum.inl.injEq, Sum.inr.injEq, true_or, or_true, and_self, q_sw]
      rw [i_0, i_cl (by omega), r1, e1m, nI_leI (by omega) (by omega), nI_1]
      refine ⟨i_in (by omega) (by decide), fun h => absurd h (by omega), fun _ => ?_⟩
      refine q_u1 (by decide) (c_mstanding l S1 hok hR1 hj3 (k := z + 1) (by rw [esp, shl_len]; omega)) ?_
      have ew : wl (sp P j (shl (P j) t.length z)) j (z + 1) = (P j).reverse.getD (z + 1) 0 := by
        unfold wl
        rw [esp, shl_get (by omega), if_neg (by omega)]
      have ei : (3 : Int32) + 6 * nI j + nI z = nI (3 + 6 * j + z) := by
        rw [show (6 : Int32) = nI 6 from rfl, show (3 : Int32) = nI 3 from rfl, pk_mul, nI_add, nI_add]
      rw [ew, ei, i_cl (by omega)]
      refine ⟨i_in (by omega) (by decide), ?_⟩
      exact ih (z + 1) _ (by omega) (by omega) (rw1_sh hP.1 hj3 (by omega) hz1 hR1) (fun q hq => by rw [q_I_wI, if_neg (by omega)]; exact hq1 q hq) (fr.wI hf1 ⟨rfl, rfl⟩)
  refine step 40 [(1, [true, true, true, true, true])] 0 _ _ _ ?_
  simp only [q_vcs, q_vcc, q_vl, q_vu, ↓reduceIte, Nat.reduceEqDiff, Bool.false_eq_true, q_isc, q_mk, q_msk, zbX11_takesOut, q_pad, q_ent, q_get, q_put, q_nl, q_w, List.cons_append, List.nil_append, q_aks, q_als, Nat.reduceAdd, Nat.reduceLeDiff, Nat.zero_le, true_and, and_true, Option.some.injEq, Sum.inl.injEq, Sum.inr.injEq, true_or, or_true, and_self, q_sw]
  refine q_u1 (by decide) (c_mlaneOf l S hY hM hP hR (c := c) (by omega)) ?_
  refine q_u1 (by decide) (c_mrankOf l S hY hM hP hR hl) ?_
  rw [hl, hA, (rkw_split hnd).1]
  refine hL A.length t.length S (by omega) (Nat.le_refl _) ?_ (fun _ _ => rfl) fr.rf
  rw [shl_0]
  have : sp P j (P j) = P := by
    funext z
    simp only [sp]
    split
    · rename_i e; rw [e]
    · rfl
  rw [this]
  exact hR
