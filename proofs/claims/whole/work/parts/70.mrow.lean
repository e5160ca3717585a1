/-! the reference: rows of numbers, lanes from the wall on -/
def MY (S : qSt) (Y : YD) : Prop := q_I S 44 0 0 = nI (Y 0 0) ∧ q_I S 44 0 1 = nI (Y 1 0) ∧ q_I S 44 0 2 = nI (Y 2 0) ∧ (∀ k, k < Y 0 0 → q_I S 46 0 k = nI (Y 3 k)) ∧ (∀ c, c < Y 1 0 → q_I S 52 c 0 = nI (Y 4 c) ∧ q_I S 52 c 1 = nI (Y 5 c) ∧ q_I S 52 c 2 = nI (Y 6 c) ∧ q_I S 48 0 c = nI (Y 7 c))
theorem MY.fr {F : Nat → Nat → Prop} {S S' : qSt} {Y : YD} (h : MY S Y) (hf : fr F S S') (h1 : ∀ i, ¬ F 44 i) (h2 : ∀ i, ¬ F 46 i) (h3 : ∀ i, ¬ F 48 i) (h4 : ∀ i, ¬ F 52 i) : MY S' Y := by
  unfold MY at *
  rw [(hf 44 0 (h1 0)).1, (hf 46 0 (h2 0)).1, (hf 48 0 (h3 0)).1]
  obtain ⟨a, b, c, d, e⟩ := h
  refine ⟨a, b, c, d, fun k hk => ?_⟩
  rw [(hf 52 k (h4 k)).1]
  exact e k hk
def RW1 (S : qSt) (i : Nat) (P : Nat → List Nat) : Prop := ∀ l, l < 3 → q_I S 65 i l = nI (P l).length ∧ ∀ k, k < (P l).length → q_I S 65 i (3 + 6 * l + k) = nI ((P l).reverse.getD k 0)
theorem RW1.fr {F : Nat → Nat → Prop} {S S' : qSt} {i : Nat} {P : Nat → List Nat} (h : RW1 S i P) (hf : fr F S S') (h1 : ¬ F 65 i) : RW1 S' i P := by
  unfold RW1 at *
  rw [(hf 65 i h1).1]
  exact h
def wl (P : Nat → List Nat) (l k : Nat) : Nat := (P l).reverse.getD k 0
theorem wl_mem {P : Nat → List Nat} {l k : Nat} (hk : k < (P l).length) : wl P l k ∈ P l := by
  unfold wl
  rw [List.getD_eq_getElem?_getD, List.getElem?_eq_getElem (by simpa using hk)]
  exact List.mem_reverse.mp (List.getElem_mem _)
theorem c_min (l : Launch) (S : qSt) (x a b : Int32) : q_Met q_mt l 0 k_X11_in 1 [.inl x, .inl a, .inl b] S (fun r S' => r = some (.inl (bI (decide (a ≤ x ∧ x ≤ b)))) ∧ S' = S) := by
  refine q_meth zoX11_in q_fos (Nat.le_of_ble_eq_true rfl) ?_
  intro AT step
  refine step 20 [] 0 _ _ _ ?_
  simp only [q_vcs, q_vcc, q_vl, q_vu, ↓reduceIte, Nat.reduceEqDiff, Bool.false_eq_true, q_isc, q_mk, q_msk, zbX11_in, q_pad, q_ent, q_get, q_put, q_nl, q_w, List.cons_append, List.nil_append, q_aks, q_als, Nat.reduceAdd, Nat.reduceLeDiff, Nat.zero_le, true_and, and_true, Option.some.injEq, Sum.inl.injEq, Sum.inr.injEq, true_or, or_true, and_self, q_sw]
  refine ⟨fun h => ?_, fun h => ⟨fun h' => ?_, fun h' => ?_⟩⟩
  · have : ¬ (a ≤ x ∧ x ≤ b) := fun q => (fa_of_lt h).2.1 q.1
    rw [decide_eq_false this]; first | rfl | exact ⟨rfl, rfl⟩
  · have : ¬ (a ≤ x ∧ x ≤ b) := fun q => (fa_of_lt h').2.1 q.2
    rw [decide_eq_false this]; first | rfl | exact ⟨rfl, rfl⟩
  · have : a ≤ x ∧ x ≤ b := ⟨fa_of_nlt h, fa_of_nlt h'⟩
    rw [decide_eq_true this]; first | rfl | exact ⟨rfl, rfl⟩
theorem c_mless (l : Launch) (S : qSt) (a b : Int32) : q_Met q_mt l 0 k_X11_less 1 [.inl a, .inl b] S (fun r S' => r = some (.inl (if a < b then a else b)) ∧ S' = S) := by
  refine q_meth zoX11_less q_fos (Nat.le_of_ble_eq_true rfl) ?_
  intro AT step
  refine step 20 [] 0 _ _ _ ?_
  simp only [q_vcs, q_vcc, q_vl, q_vu, ↓reduceIte, Nat.reduceEqDiff, Bool.false_eq_true, q_isc, q_mk, q_msk, zbX11_less, q_pad, q_ent, q_get, q_put, q_nl, q_w, List.cons_append, List.nil_append, q_aks, q_als, Nat.reduceAdd, Nat.reduceLeDiff, Nat.zero_le, true_and, and_true, Option.some.injEq, Sum.inl.injEq, Sum.inr.injEq, true_or, or_true, and_self, q_sw]
  refine ⟨fun h => ?_, fun h => ?_⟩
  · rw [if_neg (fun q => (fa_of_lt q).2.1 h)]
  · rw [if_pos (fa_of_nle h)]
theorem c_mmore (l : Launch) (S : qSt) (a b : Int32) : q_Met q_mt l 0 k_X11_more 1 [.inl a, .inl b] S (fun r S' => r = some (.inl (if b < a then a else b)) ∧ S' = S) := by
  refine q_meth zoX11_more q_fos (Nat.le_of_ble_eq_true rfl) ?_
  intro AT step
  refine step 20 [] 0 _ _ _ ?_
  simp only [q_vcs, q_vcc, q_vl, q_vu, ↓reduceIte, Nat.reduceEqDiff, Bool.false_eq_true, q_isc, q_mk, q_msk, zbX11_more, q_pad, q_ent, q_get, q_put, q_nl, q_w, List.cons_append, List.nil_append, q_aks, q_als, Nat.reduceAdd, Nat.reduceLeDiff, Nat.zero_le, true_and, and_true, Option.some.injEq, Sum.inl.injEq, Sum.inr.injEq, true_or, or_true, and_self, q_sw]
  refine ⟨fun h => ?_, fun h => ?_⟩
  · rw [if_neg (fun q => (fa_of_lt q).2.1 h)]
  · rw [if_pos (fa_of_nle h)]
theorem c_mhas (l : Launch) (S : qSt) {n k : Nat} (hn : n < 2 ^ 31) (hk : k < 31) : q_Met q_mt l 0 k_X11_has 1 [.inl (nI n), .inl (nI k)] S (fun r S' => r = some (.inl (bI (n.testBit k))) ∧ S' = S) := by
  refine q_meth zoX11_has q_fos (Nat.le_of_ble_eq_true rfl) ?_
  intro AT step
  refine step 20 [] 0 _ _ _ ?_
  simp only [q_vcs, q_vcc, q_vl, q_vu, ↓reduceIte, Nat.reduceEqDiff, Bool.false_eq_true, q_isc, q_mk, q_msk, zbX11_has, q_pad, q_ent, q_get, q_put, q_nl, q_w, List.cons_append, List.nil_append, q_aks, q_als, Nat.reduceAdd, Nat.reduceLeDiff, Nat.zero_le, true_and, and_true, Option.some.injEq, Sum.inl.injEq, Sum.inr.injEq, true_or, or_true, and_self, q_sw]
  rw [i_bit hn hk]
  cases n.testBit k with
  | true => exact ⟨fun h => absurd rfl h, fun _ => (by first | trivial | rfl | exact ⟨rfl, rfl⟩)⟩
  | false => exact ⟨fun _ => (by first | trivial | rfl | exact ⟨rfl, rfl⟩), fun h => absurd h (by decide)⟩
theorem i_3 (l k : Nat) : (3 : Int32) + 6 * nI l + nI k = nI (3 + 6 * l + k) := by
  rw [show (6 : Int32) = nI 6 from rfl, pk_mul, show (3 : Int32) = nI 3 from rfl, nI_add, nI_add]
theorem c_mstanding (l : Launch) (S : qSt) {i j k : Nat} {P : Nat → List Nat} (hP : st_ok P) (hR : RW1 S i P) (hj : j < 3) (hk : k < (P j).length) : q_Met q_mt l 0 k_X11_standing 1 [.inr (.inr (65, i)), .inl (nI j), .inl (nI k)] S (fun r S' => r = some (.inl (nI (wl P j k))) ∧ S' = S) := by
  have h6 := (st_row hP hj).1
  refine q_meth zoX11_standing q_fos (Nat.le_of_ble_eq_true rfl) ?_
  intro AT step
  refine step 20 [] 0 _ _ _ ?_
  simp only [q_vcs, q_vcc, q_vl, q_vu, ↓reduceIte, Nat.reduceEqDiff, Bool.false_eq_true, q_isc, q_mk, q_msk, zbX11_standing, q_pad, q_ent, q_get, q_put, q_nl, q_w, List.cons_append, List.nil_append, q_aks, q_als, Nat.reduceAdd, Nat.reduceLeDiff, Nat.zero_le, true_and, and_true, Option.some.injEq, Sum.inl.injEq, Sum.inr.injEq, true_or, or_true, and_self, q_sw]
  rw [i_3, i_cl (by omega), (hR j hj).2 k hk]
  exact ⟨i_in (by omega) (by decide), (by first | trivial | rfl | exact ⟨rfl, rfl⟩)⟩
theorem i_0 (j : Nat) : (0 : Int32) + nI j = nI j := by rw [show (0 : Int32) = nI 0 from rfl, nI_add, Nat.zero_add]
theorem wl_last {P : Nat → List Nat} {j : Nat} {c : Nat} {r : List Nat} (h : P j = c :: r) : wl P j r.length = c := by
  unfold wl
  rw [h, List.getD_eq_getElem?_getD, List.reverse_cons]
  simp
theorem c_mfrontOf (l : Launch) (S : qSt) {i j : Nat} {P : Nat → List Nat} (hP : st_ok P) (hR : RW1 S i P) (hj : j < 3) : q_Met q_mt l 1 k_X11_frontOf 1 [.inr (.inr (65, i)), .inl (nI j)] S (fun r S' => r = some (.inl (oI (P j).head?)) ∧ S' = S) := by
  have h6 := (st_row hP hj).1
  refine q_meth zoX11_frontOf q_fos (Nat.le_of_ble_eq_true rfl) ?_
  intro AT step
  refine step 20 [] 0 _ _ _ ?_
  simp only [q_vcs, q_vcc, q_vl, q_vu, ↓reduceIte, Nat.reduceEqDiff, Bool.false_eq_true, q_isc, q_mk, q_msk, zbX11_frontOf, q_pad, q_ent, q_get, q_put, q_nl, q_w, List.cons_append, List.nil_append, q_aks, q_als, Nat.reduceAdd, Nat.reduceLeDiff, Nat.zero_le, true_and, and_true, Option.some.injEq, Sum.inl.injEq, Sum.inr.injEq, true_or, or_true, and_self, q_sw]
  rw [i_0, i_cl (by omega), (hR j hj).1]
  refine ⟨i_in (by omega) (by decide), fun h => ⟨i_in (by omega) (by decide), ?_⟩, fun h => ?_⟩
  · cases hr : P j with
    | nil => rw [hr] at h; exact absurd rfl h
    | cons c r =>
      rw [show nI (c :: r).length - 1 = nI r.length from i_m1 _]
      refine q_u1 (by decide) (c_mstanding l S hP hR hj (k := r.length) (by rw [hr]; simp)) ?_
      rw [wl_last hr]
      exact ⟨rfl, rfl⟩
  · cases hr : P j with
    | nil => exact (by first | trivial | rfl | exact ⟨rfl, rfl⟩)
    | cons c r =>
      rw [hr] at h
      exact absurd h (nI_ne0 (by simp) (by rw [hr] at h6; omega))
theorem usd_app (Y : YD) : ∀ a b : List Nat, usd Y (a ++ b) = usd Y a + usd Y b
  | [], b => by simp [usd]
  | c :: a, b => by
    simp only [List.cons_append, usd, usd_app Y a b]
    omega
theorem usd_rev (Y : YD) : ∀ a : List Nat, usd Y a.reverse = usd Y a
  | [] => rfl
  | c :: a => by
    rw [List.reverse_cons, usd_app, usd_rev Y a]
    simp only [usd]
    omega
theorem take_wl {P : Nat → List Nat} {j k : Nat} (hk : k < (P j).length) : (P j).reverse.take (k + 1) = (P j).reverse.take k ++ [wl P j k] := by
  unfold wl
  rw [List.take_add_one, List.getElem?_eq_getElem (by simpa using hk), List.getD_eq_getElem?_getD, List.getElem?_eq_getElem (by simpa using hk)]
  rfl
theorem c_mroomOf (l : Launch) (S : qSt) {i j : Nat} {Y : YD} {P : Nat → List Nat} (hY : y_ok Y) (hM : MY S Y) (hP : p_ok Y P) (hR : RW1 S i P) (hj : j < Y 0 0) : q_Met q_mt l 1 k_X11_roomOf 1 [.inr (.inr (40, 0)), .inr (.inr (65, i)), .inl (nI j)] S (fun r S' => r = some (.inl (rmI Y P j)) ∧ S' = S) := by
  have h3 := hY.1
  have h6c := hY.2.1
  have hj3 : j < 3 := by omega
  have h6 := (st_row hP.1 hj3).1
  refine q_meth zoX11_roomOf q_fos (Nat.le_of_ble_eq_true rfl) ?_
  intro AT step
  have hL : ∀ (m k : Nat), k + m = (P j).length → AT 1 [some (.inr (.inr (40, 0))), some (.inr (.inr (65, i))), some (.inl (nI j)), some (.inl (nI (plc Y j) - nI (usd Y ((P j).reverse.take k)))), some (.inl (nI k))] [] S := by
    intro m
    induction m with
    | zero =>
      intro k hk
      refine step 40 [(1, [true, true, true, true, true])] 1 _ _ _ ?_
      simp only [q_vcs, q_vcc, q_vl, q_vu, ↓reduceIte, Nat.reduceEqDiff, Bool.false_eq_true, q_isc, q_mk, q_msk, zbX11_roomOf, q_pad, q_ent, q_get, q_put, q_nl, q_w, List.cons_append, List.nil_append, q_aks, q_als, Nat.reduceAdd, Nat.reduceLeDiff, Nat.zero_le, true_and, and_true, Option.some.injEq, Sum.inl.injEq, Sum.inr.injEq, true_or, or_true, and_self, q_sw]
      rw [i_0, i_cl (by omega), (hR j hj3).1, nI_leI (by omega) (by omega)]
      refine ⟨i_in (by omega) (by decide), fun _ => ?_, fun h => absurd (by omega) h⟩
      rw [List.take_of_length_le (by simp; omega), usd_rev]
      exact (by first | trivial | rfl | exact ⟨rfl, rfl⟩)
    | succ m ih =>
      intro k hk
      have hkl : k < (P j).length := by omega
      have hm := wl_mem hkl
      have hc := hP.2.2.1 j _ hm
      refine step 40 [(1, [true, true, true, true, true])] 1 _ _ _ ?_
      simp only [q_vcs, q_vcc, q_vl, q_vu, ↓reduceIte, Nat.reduceEqDiff, Bool.false_eq_true, q_isc, q_mk, q_msk, zbX11_roomOf, q_pad, q_ent, q_get, q_put, q_nl, q_w, List.cons_append, List.nil_append, q_aks, q_als, Nat.reduceAdd, Nat.reduceLeDiff, Nat.zero_le, true_and, and_true, Option.some.injEq, Sum.inl.injEq, Sum.inr.injEq, true_or, or_true, and_self, q_sw]
      rw [i_0, i_cl (by omega), (hR j hj3).1, nI_leI (by omega) (by omega)]
      refine ⟨i_in (by omega) (by decide), fun h => absurd h (by omega), fun _ => ?_⟩
      refine q_u1 (by decide) (c_mstanding l S hP.1 hR hj3 hkl) ?_
      rw [i_cl (by omega), show Int32.toNatClampNeg 0 = 0 from rfl, (hM.2.2.2.2 _ hc).1, nI_1]
      refine ⟨i_in (by omega) (by decide), i_in (by decide) (by decide), ?_⟩
      have := ih (k + 1) (by omega)
      rw [take_wl hkl, usd_app] at this
      have e : nI (plc Y j) - nI (usd Y ((P j).reverse.take k) + usd Y [wl P j k]) = nI (plc Y j) - nI (usd Y ((P j).reverse.take k)) - nI (Y 4 (wl P j k)) := by
        rw [← nI_add, Int32.sub_sub]
        congr 2
        simp only [usd, Nat.add_zero]
        unfold lgt
        rw [if_pos hc]
      rw [e] at this
      exact this
  refine step 40 [(1, [true, true, true, true, true])] 0 _ _ _ ?_
  simp only [q_vcs, q_vcc, q_vl, q_vu, ↓reduceIte, Nat.reduceEqDiff, Bool.false_eq_true, q_isc, q_mk, q_msk, zbX11_roomOf, q_pad, q_ent, q_get, q_put, q_nl, q_w, List.cons_append, List.nil_append, q_aks, q_als, Nat.reduceAdd, Nat.reduceLeDiff, Nat.zero_le, true_and, and_true, Option.some.injEq, Sum.inl.injEq, Sum.inr.injEq, true_or, or_true, and_self, q_sw]
  rw [i_cl (by omega), hM.2.2.2.1 j hj]
  refine ⟨i_in (by omega) (by decide), ?_⟩
  have := hL (P j).length 0 (by omega)
  have e : nI (plc Y j) - nI (usd Y ((P j).reverse.take 0)) = nI (Y 3 j) := by
    rw [List.take_zero]
    unfold plc
    rw [if_pos hj]
    show nI (Y 3 j) - 0 = _
    simp
  rw [e] at this
  exact this
