/-! the reference: who is ahead, places -/
theorem rm_all {l : Launch} {T : Nat → Nat} {n : Nat} {Y : YD} {cd : List Tok} (hY : y_ok Y) (hn : n ≤ 150) : ∀ f g, g ≤ f → RmC l T n Y cd g := by
  intro f
  induction f with
  | zero =>
    intro g hg
    rw [show g = 0 by omega]
    exact rm_step hY hn 0 (fun g hg => by omega)
  | succ f ih =>
    intro g hg
    exact rm_step hY hn g (fun g' hg' => ih g' (by omega))
theorem c_misLane (l : Launch) (S : qSt) {Y : YD} (hM : MY S Y) (x : Int32) : q_Met q_mt l 1 k_X11_isLane 1 [.inr (.inr (40, 0)), .inl x] S (fun r S' => r = some (.inl (bI (decide (0 ≤ x ∧ x ≤ nI (Y 0 0) - 1)))) ∧ S' = S) := by
  refine q_meth zoX11_isLane q_fos (Nat.le_of_ble_eq_true rfl) ?_
  intro AT step
  refine step 20 [] 0 _ _ _ ?_
  simp only [q_vcs, q_vcc, q_vl, q_vu, ↓reduceIte, Nat.reduceEqDiff, Bool.false_eq_true, q_isc, q_mk, q_msk, zbX11_isLane, q_pad, q_ent, q_get, q_put, q_nl, q_w, List.cons_append, List.nil_append, q_aks, q_als, Nat.reduceAdd, Nat.reduceLeDiff, Nat.zero_le, true_and, and_true, Option.some.injEq, Sum.inl.injEq, Sum.inr.injEq, true_or, or_true, and_self, q_sw]
  have e : q_I S 44 0 (Int32.toNatClampNeg 0) = nI (Y 0 0) := hM.1
  rw [e]
  have hb : ∀ b : Bool, bI b = 0 ∨ bI b = 1 := fun b => by cases b <;> decide
  exact ⟨i_in (by decide) (by decide), q_u1 (by decide) (c_min l S x 0 _) ⟨hb _, (by first | trivial | rfl | exact ⟨rfl, rfl⟩)⟩⟩
theorem c_misCar (l : Launch) (S : qSt) {Y : YD} (hM : MY S Y) (x : Int32) : q_Met q_mt l 1 k_X11_isCar 1 [.inr (.inr (40, 0)), .inl x] S (fun r S' => r = some (.inl (bI (decide (0 ≤ x ∧ x ≤ nI (Y 1 0) - 1)))) ∧ S' = S) := by
  refine q_meth zoX11_isCar q_fos (Nat.le_of_ble_eq_true rfl) ?_
  intro AT step
  refine step 20 [] 0 _ _ _ ?_
  simp only [q_vcs, q_vcc, q_vl, q_vu, ↓reduceIte, Nat.reduceEqDiff, Bool.false_eq_true, q_isc, q_mk, q_msk, zbX11_isCar, q_pad, q_ent, q_get, q_put, q_nl, q_w, List.cons_append, List.nil_append, q_aks, q_als, Nat.reduceAdd, Nat.reduceLeDiff, Nat.zero_le, true_and, and_true, Option.some.injEq, Sum.inl.injEq, Sum.inr.injEq, true_or, or_true, and_self, q_sw]
  have e : q_I S 44 0 (Int32.toNatClampNeg 1) = nI (Y 1 0) := hM.2.1
  rw [e]
  have hb : ∀ b : Bool, bI b = 0 ∨ bI b = 1 := fun b => by cases b <;> decide
  exact ⟨i_in (k := 1) (by decide) (by decide), q_u1 (by decide) (c_min l S x 0 _) ⟨hb _, (by first | trivial | rfl | exact ⟨rfl, rfl⟩)⟩⟩
theorem c_mareCars (l : Launch) (S : qSt) {Y : YD} (hY : y_ok Y) (hM : MY S Y) (x : Int32) : q_Met q_mt l 1 k_X11_areCars 1 [.inr (.inr (40, 0)), .inl x] S (fun r S' => r = some (.inl (bI (decide (0 ≤ x ∧ x ≤ nI (2 ^ Y 1 0) - 1)))) ∧ S' = S) := by
  have h6 := hY.2.1
  refine q_meth zoX11_areCars q_fos (Nat.le_of_ble_eq_true rfl) ?_
  intro AT step
  refine step 20 [] 0 _ _ _ ?_
  simp only [q_vcs, q_vcc, q_vl, q_vu, ↓reduceIte, Nat.reduceEqDiff, Bool.false_eq_true, q_isc, q_mk, q_msk, zbX11_areCars, q_pad, q_ent, q_get, q_put, q_nl, q_w, List.cons_append, List.nil_append, q_aks, q_als, Nat.reduceAdd, Nat.reduceLeDiff, Nat.zero_le, true_and, and_true, Option.some.injEq, Sum.inl.injEq, Sum.inr.injEq, true_or, or_true, and_self, q_sw]
  have e : q_I S 44 0 (Int32.toNatClampNeg 1) = nI (Y 1 0) := hM.2.1
  rw [e, i_1sh _ (by omega)]
  have hb : ∀ b : Bool, bI b = 0 ∨ bI b = 1 := fun b => by cases b <;> decide
  exact ⟨i_in (k := 1) (by decide) (by decide), q_u1 (by decide) (c_min l S x 0 _) ⟨hb _, (by first | trivial | rfl | exact ⟨rfl, rfl⟩)⟩⟩
theorem c_mbad (l : Launch) (S : qSt) (b : Bool) {w r : Nat} {t : Nat} (ht : q_I S 40 0 0 = nI t) (ht2 : t ≤ 2) (hw : 1 ≤ w ∧ w ≤ 2) (hr : r < 2) : q_Met q_mt l 0 k_X11_bad 1 [.inr (.inr (40, 0)), .inl (bI b), .inl (nI w), .inl (nI r)] S (fun v S' => v = some (.inl (bI (b || decide (t ≠ 0)))) ∧ S' = (if b = true ∧ t = 0 then q_wI (q_wI S 40 0 0 (nI w)) 42 0 r (q_I S 42 0 r + 1) else S)) := by
  refine q_meth zoX11_bad q_fos (Nat.le_of_ble_eq_true rfl) ?_
  intro AT step
  refine step 20 [] 0 _ _ _ ?_
  simp only [q_vcs, q_vcc, q_vl, q_vu, ↓reduceIte, Nat.reduceEqDiff, Bool.false_eq_true, q_isc, q_mk, q_msk, zbX11_bad, q_pad, q_ent, q_get, q_put, q_nl, q_w, List.cons_append, List.nil_append, q_aks, q_als, Nat.reduceAdd, Nat.reduceLeDiff, Nat.zero_le, true_and, and_true, Option.some.injEq, Sum.inl.injEq, Sum.inr.injEq, true_or, or_true, and_self, q_sw]
  have e1 : ∀ x, q_I (q_wI S 40 0 0 (nI w)) 42 0 x = q_I S 42 0 x := fun x => by rw [q_I_wI, if_neg (by omega)]
  have e2 : ∀ x v, q_I (q_wI (q_wI S 40 0 0 (nI w)) 42 0 x v) 40 0 0 = nI w := fun x v => by rw [q_I_wI, if_neg (by omega), q_I_wI, if_pos ⟨rfl, rfl, rfl⟩]
  rw [bI_0, ht, i_cl (by omega), e1, e2, show (0 : Int32) = nI 0 from rfl, nI_eq (by omega) (by decide), nI_eq (by omega) (by decide)]
  cases b with
  | false =>
    refine ⟨fun _ => ⟨fun h => ?_, fun h => ?_⟩, fun h => absurd rfl h⟩
    · simp [h]; rfl
    · simp [h]; rfl
  | true =>
    refine ⟨fun h => (by cases h), fun _ => ⟨fun h => ⟨fun h' => absurd h' h, fun h' => ?_⟩, fun h => ⟨i_in hr (by decide), i_in hr (by decide), fun h' => absurd h' (by omega), fun _ => ?_⟩⟩⟩
    · simp [h]; rfl
    · simp [h]; rfl
/-- in a lane: those ahead of a car, the car, those nearer to the wall -/
theorem rkw_split {A t : List Nat} {c : Nat} (hd : (A ++ c :: t).Nodup) : rkw (A ++ c :: t) c = t.length ∧ (A ++ c :: t).reverse.takeWhile (fun x => decide (x ≠ c)) = t.reverse := by
  have hc : c ∉ t := (List.nodup_cons.mp (List.nodup_append.mp hd).2.1).1
  have e : (A ++ c :: t).reverse.takeWhile (fun x => decide (x ≠ c)) = t.reverse := by
    rw [List.reverse_append, List.reverse_cons, List.append_assoc, List.takeWhile_append_of_pos (fun x hx => by
      have : x ∈ t := List.mem_reverse.mp hx
      simp
      exact fun q => hc (by rw [← q]; exact this))]
    simp
  unfold rkw
  rw [e]
  simp
theorem wl_ahead {P : Nat → List Nat} {j c k : Nat} {A t : List Nat} (h : P j = A ++ c :: t) (h1 : t.length < k) (h2 : k < (P j).length) : wl P j k ∈ A := by
  unfold wl
  rw [h, List.length_append, List.length_cons] at h2
  rw [h, List.getD_eq_getElem?_getD, List.reverse_append, List.reverse_cons, List.append_assoc, List.getElem?_append_right (by simp; omega)]
  simp only [List.length_reverse]
  rw [show k - t.length = (k - t.length - 1) + 1 by omega, List.singleton_append, List.getElem?_cons_succ, List.getElem?_eq_getElem (by simp; omega)]
  exact List.mem_reverse.mp (List.getElem_mem _)
theorem ahead_wl {P : Nat → List Nat} {j c x : Nat} {A t : List Nat} (h : P j = A ++ c :: t) (hx : x ∈ A) : ∃ k, t.length < k ∧ k < (P j).length ∧ wl P j k = x := by
  obtain ⟨i, hi, e⟩ := List.getElem_of_mem (List.mem_reverse.mpr hx)
  refine ⟨t.length + 1 + i, by omega, ?_, ?_⟩
  · rw [h, List.length_append, List.length_cons]
    simp at hi
    omega
  · unfold wl
    rw [h, List.getD_eq_getElem?_getD, List.reverse_append, List.reverse_cons, List.append_assoc, List.getElem?_append_right (by simp; omega)]
    simp only [List.length_reverse]
    rw [show t.length + 1 + i - t.length = i + 1 by omega, List.singleton_append, List.getElem?_cons_succ, List.getElem?_eq_getElem hi, e]
    rfl
theorem c_maheadOf (l : Launch) (S : qSt) {c : Nat} {Y : YD} {P : Nat → List Nat} (hY : y_ok Y) (hM : MY S Y) (hP : p_ok Y P) (hR : RW1 S 0 P) (hc : c < 2 ^ 20) : q_Met q_mt l 3 k_X11_aheadOf 1 [.inr (.inr (40, 0)), .inl (nI c)] S (fun r S' => r = some (.inl (nI (bo (ahd P c)))) ∧ S' = S) := by
  refine q_meth zoX11_aheadOf q_fos (Nat.le_of_ble_eq_true rfl) ?_
  intro AT step
  cases hl : lnof P c with
  | none =>
    refine step 20 [(2, [true, true, true, true, true])] 0 _ _ _ ?_
    simp only [q_vcs, q_vcc, q_vl, q_vu, ↓reduceIte, Nat.reduceEqDiff, Bool.false_eq_true, q_isc, q_mk, q_msk, zbX11_aheadOf, q_pad, q_ent, q_get, q_put, q_nl, q_w, List.cons_append, List.nil_append, q_aks, q_als, Nat.reduceAdd, Nat.reduceLeDiff, Nat.zero_le, true_and, and_true, Option.some.injEq, Sum.inl.injEq, Sum.inr.injEq, true_or, or_true, and_self, q_sw]
    have hm := c_mlaneOf l S hY hM hP hR (c := c) hc
    rw [hl] at hm
    refine q_u1 (by decide) hm ?_
    have e : ahd P c = [] := by unfold ahd; rw [hl]
    rw [e]
    exact ⟨fun h => absurd rfl h, fun _ => (by first | trivial | rfl | exact ⟨rfl, rfl⟩)⟩
  | some j =>
    obtain ⟨hj3, hcm⟩ := lnof_lt hl
    obtain ⟨t, ht⟩ := ahd_split hl
    have hr := st_row hP.1 hj3
    have hnd := p_nd hP hj3
    rw [ht] at hnd
    have hrk := (rkw_split hnd).1
    rw [← ht] at hrk
    have hlen : (P j).length = (ahd P c).length + (t.length + 1) := by rw [ht]; simp
    have hc6 := hr.2 c hcm
    have hL : ∀ (m k n : Nat), k + m = (P j).length → t.length < k → (∀ x, n.testBit x = true ↔ ∃ q, t.length < q ∧ q < k ∧ wl P j q = x) → AT 2 [some (.inr (.inr (40, 0))), some (.inl (nI c)), some (.inl (nI j)), some (.inl (nI n)), some (.inl (nI k))] [] S := by
      intro m
      induction m with
      | zero =>
        intro k n hk htk hn
        refine step 40 [(2, [true, true, true, true, true])] 2 _ _ _ ?_
        simp only [q_vcs, q_vcc, q_vl, q_vu, ↓reduceIte, Nat.reduceEqDiff, Bool.false_eq_true, q_isc, q_mk, q_msk, zbX11_aheadOf, q_pad, q_ent, q_get, q_put, q_nl, q_w, List.cons_append, List.nil_append, q_aks, q_als, Nat.reduceAdd, Nat.reduceLeDiff, Nat.zero_le, true_and, and_true, Option.some.injEq, Sum.inl.injEq, Sum.inr.injEq, true_or, or_true, and_self, q_sw]
        rw [i_0, i_cl (by omega), (hR j hj3).1, nI_leI (by have := hr.1; omega) (by have := hr.1; omega)]
        refine ⟨i_in (by omega) (by decide), fun _ => ?_, fun h => absurd (by omega) h⟩
        have e : n = bo (ahd P c) := by
          apply Nat.eq_of_testBit_eq
          intro x
          rw [Bool.eq_iff_iff, hn x, bo_bit, decide_eq_true_eq]
          constructor
          · rintro ⟨q, q1, q2, q3⟩
            rw [← q3]
            exact wl_ahead ht q1 (by omega)
          · intro hx
            obtain ⟨q, q1, q2, q3⟩ := ahead_wl ht hx
            exact ⟨q, q1, by omega, q3⟩
        rw [e]
      | succ m ih =>
        intro k n hk htk hn
        have hkl : k < (P j).length := by omega
        have h6 := hr.2 _ (wl_mem hkl)
        refine step 40 [(2, [true, true, true, true, true])] 2 _ _ _ ?_
        simp only [q_vcs, q_vcc, q_vl, q_vu, ↓reduceIte, Nat.reduceEqDiff, Bool.false_eq_true, q_isc, q_mk, q_msk, zbX11_aheadOf, q_pad, q_ent, q_get, q_put, q_nl, q_w, List.cons_append, List.nil_append, q_aks, q_als, Nat.reduceAdd, Nat.reduceLeDiff, Nat.zero_le, true_and, and_true, Option.some.injEq, Sum.inl.injEq, Sum.inr.injEq, true_or, or_true, and_self, q_sw]
        rw [i_0, i_cl (by omega), (hR j hj3).1, nI_leI (by have := hr.1; omega) (by have := hr.1; omega)]
        refine ⟨i_in (by omega) (by decide), fun h => absurd h (by omega), fun _ => ?_⟩
        refine q_u1 (by decide) (c_mstanding l S hP.1 hR hj3 hkl) ?_
        rw [i_1sh _ (by omega), fa_or, nI_1]
        refine ih (k + 1) _ (by omega) (by omega) (fun x => ?_)
        rw [fb_bit_set, Bool.or_eq_true, hn x, decide_eq_true_eq]
        constructor
        · rintro (⟨q, q1, q2, q3⟩ | e)
          · exact ⟨q, q1, by omega, q3⟩
          · exact ⟨k, htk, by omega, e.symm⟩
        · rintro ⟨q, q1, q2, q3⟩
          by_cases e : q = k
          · right; rw [← q3, e]
          · left; exact ⟨q, q1, by omega, q3⟩
    refine step 20 [(2, [true, true, true, true, true])] 0 _ _ _ ?_
    simp only [q_vcs, q_vcc, q_vl, q_vu, ↓reduceIte, Nat.reduceEqDiff, Bool.false_eq_true, q_isc, q_mk, q_msk, zbX11_aheadOf, q_pad, q_ent, q_get, q_put, q_nl, q_w, List.cons_append, List.nil_append, q_aks, q_als, Nat.reduceAdd, Nat.reduceLeDiff, Nat.zero_le, true_and, and_true, Option.some.injEq, Sum.inl.injEq, Sum.inr.injEq, true_or, or_true, and_self, q_sw]
    have hm := c_mlaneOf l S hY hM hP hR (c := c) hc
    rw [hl] at hm
    refine q_u1 (by decide) hm ?_
    refine ⟨fun _ => ?_, fun h => absurd h (i_ne1 (by omega))⟩
    refine q_u1 (by decide) (c_mrankOf l S hY hM hP hR hl) ?_
    rw [hrk, nI_1]
    exact hL ((P j).length - (t.length + 1)) (t.length + 1) 0 (by omega) (by omega) (fun x => by
      constructor
      · intro h; simp at h
      · rintro ⟨q, q1, q2, q3⟩; omega)
/-- the place where a car begins -/
def fpo (Y : YD) (r : List Nat) (c : Nat) : Nat := usd Y (r.reverse.takeWhile (fun x => decide (x ≠ c)))
theorem tkw_take {w : List Nat} {c : Nat} : w.takeWhile (fun x => decide (x ≠ c)) = w.take (w.takeWhile (fun x => decide (x ≠ c))).length := by
  exact (List.prefix_iff_eq_take.mp (List.takeWhile_prefix _))
theorem fpo_take (Y : YD) (r : List Nat) (c : Nat) : fpo Y r c = usd Y (r.reverse.take (rkw r c)) := by
  unfold fpo rkw
  rw [← tkw_take]
theorem c_mfirstPlace (l : Launch) (S : qSt) {c j : Nat} {Y : YD} {P : Nat → List Nat} (hY : y_ok Y) (hM : MY S Y) (hP : p_ok Y P) (hR : RW1 S 0 P) (hl : lnof P c = some j) : q_Met q_mt l 3 k_X11_firstPlace 1 [.inr (.inr (40, 0)), .inl (nI c)] S (fun r S' => r = some (.inl (nI (fpo Y (P j) c))) ∧ S' = S) := by
  obtain ⟨hj3, hcm⟩ := lnof_lt hl
  have hr := st_row hP.1 hj3
  have hc6 := hr.2 c hcm
  have h6Y := hY.2.1
  obtain ⟨s1, -, -⟩ := rkw_spec hcm
  rw [fpo_take]
  refine q_meth zoX11_firstPlace q_fos (Nat.le_of_ble_eq_true rfl) ?_
  intro AT step
  have hL : ∀ (m k : Nat), k + m = rkw (P j) c → AT 2 [some (.inr (.inr (40, 0))), some (.inl (nI c)), some (.inl (nI j)), some (.inl (nI (usd Y ((P j).reverse.take k)))), some (.inl (nI k))] [] S := by
    intro m
    induction m with
    | zero =>
      intro k hk
      refine step 40 [(2, [true, true, true, true, true])] 2 _ _ _ ?_
      simp only [q_vcs, q_vcc, q_vl, q_vu, ↓reduceIte, Nat.reduceEqDiff, Bool.false_eq_true, q_isc, q_mk, q_msk, zbX11_firstPlace, q_pad, q_ent, q_get, q_put, q_nl, q_w, List.cons_append, List.nil_append, q_aks, q_als, Nat.reduceAdd, Nat.reduceLeDiff, Nat.zero_le, true_and, and_true, Option.some.injEq, Sum.inl.injEq, Sum.inr.injEq, true_or, or_true, and_self, q_sw]
      refine q_u1 (by decide) (c_mrankOf l S hY hM hP hR hl) ?_
      rw [nI_leI (by have := hr.1; omega) (by have := hr.1; omega), show k = rkw (P j) c by omega]
      exact ⟨fun _ => (by first | trivial | rfl | exact ⟨rfl, rfl⟩), fun h => absurd (Nat.le_refl _) h⟩
    | succ m ih =>
      intro k hk
      have hkl : k < (P j).length := by omega
      have hcY := hP.2.2.1 j _ (wl_mem hkl)
      refine step 40 [(2, [true, true, true, true, true])] 2 _ _ _ ?_
      simp only [q_vcs, q_vcc, q_vl, q_vu, ↓reduceIte, Nat.reduceEqDiff, Bool.false_eq_true, q_isc, q_mk, q_msk, zbX11_firstPlace, q_pad, q_ent, q_get, q_put, q_nl, q_w, List.cons_append, List.nil_append, q_aks, q_als, Nat.reduceAdd, Nat.reduceLeDiff, Nat.zero_le, true_and, and_true, Option.some.injEq, Sum.inl.injEq, Sum.inr.injEq, true_or, or_true, and_self, q_sw]
      refine q_u1 (by decide) (c_mrankOf l S hY hM hP hR hl) ?_
      rw [nI_leI (by have := hr.1; omega) (by have := hr.1; omega)]
      refine ⟨fun h => absurd h (by omega), fun _ => ?_⟩
      refine q_u1 (by decide) (c_mstanding l S hP.1 hR hj3 hkl) ?_
      have e0 : q_I S 52 (wl P j k) (Int32.toNatClampNeg 0) = nI (lgt Y (wl P j k)) := by
        unfold lgt
        rw [if_pos hcY]
        exact (hM.2.2.2.2 _ hcY).1
      rw [i_cl (by omega), e0, nI_add, nI_1]
      refine ⟨i_in (by omega) (by decide), i_in (by decide) (by decide), ?_⟩
      have := ih (k + 1) (by omega)
      rw [take_wl hkl, usd_app] at this
      simp only [usd, Nat.add_zero] at this
      exact this
  refine step 20 [(2, [true, true, true, true, true])] 0 _ _ _ ?_
  simp only [q_vcs, q_vcc, q_vl, q_vu, ↓reduceIte, Nat.reduceEqDiff, Bool.false_eq_true, q_isc, q_mk, q_msk, zbX11_firstPlace, q_pad, q_ent, q_get, q_put, q_nl, q_w, List.cons_append, List.nil_append, q_aks, q_als, Nat.reduceAdd, Nat.reduceLeDiff, Nat.zero_le, true_and, and_true, Option.some.injEq, Sum.inl.injEq, Sum.inr.injEq, true_or, or_true, and_self, q_sw]
  have hm := c_mlaneOf l S hY hM hP hR (c := c) (by omega)
  rw [hl] at hm
  refine q_u1 (by decide) hm ?_
  exact ⟨fun _ => hL (rkw (P j) c) 0 (by omega), fun h => absurd h (i_ne1 (by omega))⟩
theorem c_mfirstPlaceN (l : Launch) (S : qSt) {c : Nat} {Y : YD} {P : Nat → List Nat} (hY : y_ok Y) (hM : MY S Y) (hP : p_ok Y P) (hR : RW1 S 0 P) (hc : c < 2 ^ 20) (hl : lnof P c = none) : q_Met q_mt l 3 k_X11_firstPlace 1 [.inr (.inr (40, 0)), .inl (nI c)] S (fun r S' => r = some (.inl (-1)) ∧ S' = S) := by
  refine q_meth zoX11_firstPlace q_fos (Nat.le_of_ble_eq_true rfl) ?_
  intro AT step
  refine step 20 [(2, [true, true, true, true, true])] 0 _ _ _ ?_
  simp only [q_vcs, q_vcc, q_vl, q_vu, ↓reduceIte, Nat.reduceEqDiff, Bool.false_eq_true, q_isc, q_mk, q_msk, zbX11_firstPlace, q_pad, q_ent, q_get, q_put, q_nl, q_w, List.cons_append, List.nil_append, q_aks, q_als, Nat.reduceAdd, Nat.reduceLeDiff, Nat.zero_le, true_and, and_true, Option.some.injEq, Sum.inl.injEq, Sum.inr.injEq, true_or, or_true, and_self, q_sw]
  have hm := c_mlaneOf l S hY hM hP hR (c := c) hc
  rw [hl] at hm
  refine q_u1 (by decide) hm ?_
  exact ⟨fun h => absurd rfl h, fun _ => (by first | trivial | rfl | exact ⟨rfl, rfl⟩)⟩
theorem onw_split {Y : YD} : ∀ {u v : List Nat} {a p : Int} {c : Nat}, a + usd Y u ≤ p → p < a + usd Y u + lgt Y c → onw Y (u ++ c :: v) a p = some c
  | [], v, a, p, c, h1, h2 => by
    simp only [usd, List.nil_append] at *
    unfold onw
    rw [if_pos (by omega)]
  | x :: u, v, a, p, c, h1, h2 => by
    simp only [usd] at h1 h2
    rw [List.cons_append]
    unfold onw
    rw [if_neg (by omega)]
    exact onw_split (by omega) (by omega)
theorem onw_some {Y : YD} : ∀ {w : List Nat} {a p : Int} {c : Nat}, onw Y w a p = some c → ∃ u v, w = u ++ c :: v ∧ a + usd Y u ≤ p ∧ p < a + usd Y u + lgt Y c
  | [], _, _, _, h => by cases h
  | x :: w, a, p, c, h => by
    unfold onw at h
    split at h
    · cases h
      exact ⟨[], w, rfl, by simp only [usd]; omega, by simp only [usd]; omega⟩
    · obtain ⟨u, v, e, h1, h2⟩ := onw_some h
      exact ⟨x :: u, v, by rw [e]; rfl, by simp only [usd]; omega, by simp only [usd]; omega⟩
theorem onp_iff {Y : YD} {P : Nat → List Nat} {j : Nat} (hd : (P j).Nodup) {p : Int} {c : Nat} : onp Y P j p = some c ↔ c ∈ P j ∧ (fpo Y (P j) c : Int) ≤ p ∧ p < fpo Y (P j) c + lgt Y c := by
  unfold onp fpo
  have key : ∀ u v, (P j).reverse = u ++ c :: v → (P j).reverse.takeWhile (fun x => decide (x ≠ c)) = u := fun u v e => by
    have hd2 : (u ++ c :: v).Nodup := by rw [← e]; exact List.pairwise_reverse.mpr (List.Pairwise.imp (fun h => Ne.symm h) hd)
    have hcu : c ∉ u := fun q => (List.nodup_append.mp hd2).2.2 c q c List.mem_cons_self rfl
    rw [e, List.takeWhile_append_of_pos (fun x hx => by
      simp
      exact fun q => hcu (by rw [← q]; exact hx))]
    simp
  constructor
  · intro h
    obtain ⟨u, v, e, h1, h2⟩ := onw_some h
    rw [key u v e]
    exact ⟨List.mem_reverse.mp (by rw [e]; simp), by omega, by omega⟩
  · rintro ⟨h0, h1, h2⟩
    obtain ⟨u, v, e⟩ := List.append_of_mem (List.mem_reverse.mpr h0)
    rw [key u v e] at h1 h2
    rw [e]
    exact onw_split (by omega) (by omega)
