/-! the reference: where a car stands, who is inside, pairs -/
theorem mem_take_wl {P : Nat → List Nat} {j k x : Nat} (hk : k < (P j).length) : x ∈ (P j).reverse.take (k + 1) ↔ x ∈ (P j).reverse.take k ∨ x = wl P j k := by
  rw [take_wl hk]
  simp
theorem c_mlaneOf (l : Launch) (S : qSt) {i c : Nat} {Y : YD} {P : Nat → List Nat} (hY : y_ok Y) (hM : MY S Y) (hP : p_ok Y P) (hR : RW1 S i P) (hc : c < 2 ^ 20) : q_Met q_mt l 1 k_X11_laneOf 1 [.inr (.inr (40, 0)), .inr (.inr (65, i)), .inl (nI c)] S (fun r S' => r = some (.inl (oI (lnof P c))) ∧ S' = S) := by
  have h3 := hY.1
  have h6c := hY.2.1
  refine q_meth zoX11_laneOf q_fos (Nat.le_of_ble_eq_true rfl) ?_
  intro AT step
  have t0 : q_I S 44 0 (Int32.toNatClampNeg 0) = nI (Y 0 0) := hM.1
  have hL : ∀ (m j : Nat), j + m = Y 0 0 → (∀ q, q < j → c ∉ P q) → AT 1 [some (.inr (.inr (40, 0))), some (.inr (.inr (65, i))), some (.inl (nI c)), some (.inl (nI j)), none] [] S := by
    intro m
    induction m with
    | zero =>
      intro j hj hn
      refine step 40 [(1, [true, true, true, true, false]), (2, [true, true, true, true, true])] 1 _ _ _ ?_
      simp only [q_vcs, q_vcc, q_vl, q_vu, ↓reduceIte, Nat.reduceEqDiff, Bool.false_eq_true, q_isc, q_mk, q_msk, zbX11_laneOf, q_pad, q_ent, q_get, q_put, q_nl, q_w, List.cons_append, List.nil_append, q_aks, q_als, Nat.reduceAdd, Nat.reduceLeDiff, Nat.zero_le, true_and, and_true, Option.some.injEq, Sum.inl.injEq, Sum.inr.injEq, true_or, or_true, and_self, q_sw]
      rw [t0, nI_leI (by omega) (by omega)]
      refine ⟨i_in (by decide) (by decide), fun _ => ?_, fun h => absurd (by omega) h⟩
      have hno : ∀ q, q < 3 → c ∉ P q := fun q hq => by
        by_cases h : q < j
        · exact hn q h
        · rw [hP.2.1 q (by omega)]; simp
      have : lnof P c = none := by
        unfold lnof
        rw [if_neg (hno 0 (by decide)), if_neg (hno 1 (by decide)), if_neg (hno 2 (by decide))]
      rw [this]
      exact (by first | trivial | rfl | exact ⟨rfl, rfl⟩)
    | succ m ih =>
      intro j hj hn
      have hj3 : j < 3 := by omega
      have h6 := (st_row hP.1 hj3).1
      have inner : ∀ (m2 k : Nat), k + m2 = (P j).length → c ∉ (P j).reverse.take k → AT 2 [some (.inr (.inr (40, 0))), some (.inr (.inr (65, i))), some (.inl (nI c)), some (.inl (nI j)), some (.inl (nI k))] [] S := by
        intro m2
        induction m2 with
        | zero =>
          intro k hk hnk
          refine step 40 [(1, [true, true, true, true, false]), (2, [true, true, true, true, true])] 2 _ _ _ ?_
          simp only [q_vcs, q_vcc, q_vl, q_vu, ↓reduceIte, Nat.reduceEqDiff, Bool.false_eq_true, q_isc, q_mk, q_msk, zbX11_laneOf, q_pad, q_ent, q_get, q_put, q_nl, q_w, List.cons_append, List.nil_append, q_aks, q_als, Nat.reduceAdd, Nat.reduceLeDiff, Nat.zero_le, true_and, and_true, Option.some.injEq, Sum.inl.injEq, Sum.inr.injEq, true_or, or_true, and_self, q_sw]
          rw [i_0, i_cl (by omega), (hR j hj3).1, nI_leI (by omega) (by omega), nI_1]
          refine ⟨i_in (by omega) (by decide), fun _ => ?_, fun h => absurd (by omega) h⟩
          refine ih (j + 1) (by omega) (fun q hq => ?_)
          by_cases e : q = j
          · subst e
            rw [List.take_of_length_le (by simp; omega)] at hnk
            exact fun h => hnk (List.mem_reverse.mpr h)
          · exact hn q (by omega)
        | succ m2 ih2 =>
          intro k hk hnk
          have hkl : k < (P j).length := by omega
          have hcm := wl_mem hkl
          have hc6 := (st_row hP.1 hj3).2 _ hcm
          refine step 40 [(1, [true, true, true, true, false]), (2, [true, true, true, true, true])] 2 _ _ _ ?_
          simp only [q_vcs, q_vcc, q_vl, q_vu, ↓reduceIte, Nat.reduceEqDiff, Bool.false_eq_true, q_isc, q_mk, q_msk, zbX11_laneOf, q_pad, q_ent, q_get, q_put, q_nl, q_w, List.cons_append, List.nil_append, q_aks, q_als, Nat.reduceAdd, Nat.reduceLeDiff, Nat.zero_le, true_and, and_true, Option.some.injEq, Sum.inl.injEq, Sum.inr.injEq, true_or, or_true, and_self, q_sw]
          rw [i_0, i_cl (by omega), (hR j hj3).1, nI_leI (by omega) (by omega)]
          refine ⟨i_in (by omega) (by decide), fun h => absurd h (by omega), fun _ => ?_⟩
          refine q_u1 (by decide) (c_mstanding l S hP.1 hR hj3 hkl) ?_
          rw [nI_eq (by omega) (by omega), nI_1]
          refine ⟨fun h => ih2 (k + 1) (by omega) (fun q => ?_), fun h => ?_⟩
          · rcases (mem_take_wl hkl).mp q with q | q
            · exact hnk q
            · exact h q.symm
          · rw [h] at hcm
            rw [(lnof_iff hP hj3).mpr hcm]
            exact (by first | trivial | rfl | exact ⟨rfl, rfl⟩)
      refine step 40 [(1, [true, true, true, true, false]), (2, [true, true, true, true, true])] 1 _ _ _ ?_
      simp only [q_vcs, q_vcc, q_vl, q_vu, ↓reduceIte, Nat.reduceEqDiff, Bool.false_eq_true, q_isc, q_mk, q_msk, zbX11_laneOf, q_pad, q_ent, q_get, q_put, q_nl, q_w, List.cons_append, List.nil_append, q_aks, q_als, Nat.reduceAdd, Nat.reduceLeDiff, Nat.zero_le, true_and, and_true, Option.some.injEq, Sum.inl.injEq, Sum.inr.injEq, true_or, or_true, and_self, q_sw]
      rw [t0, nI_leI (by omega) (by omega)]
      exact ⟨i_in (by decide) (by decide), fun h => absurd h (by omega), fun _ => inner (P j).length 0 (by omega) (by simp)⟩
  refine step 40 [(1, [true, true, true, true, false])] 0 _ _ _ ?_
  simp only [q_vcs, q_vcc, q_vl, q_vu, ↓reduceIte, Nat.reduceEqDiff, Bool.false_eq_true, q_isc, q_mk, q_msk, zbX11_laneOf, q_pad, q_ent, q_get, q_put, q_nl, q_w, List.cons_append, List.nil_append, q_aks, q_als, Nat.reduceAdd, Nat.reduceLeDiff, Nat.zero_le, true_and, and_true, Option.some.injEq, Sum.inl.injEq, Sum.inr.injEq, true_or, or_true, and_self, q_sw]
  exact hL (Y 0 0) 0 (by omega) (fun q hq => by omega)
/-- how many stand nearer to the wall -/
def rkw (r : List Nat) (c : Nat) : Nat := (r.reverse.takeWhile (fun x => decide (x ≠ c))).length
theorem rkw_spec {r : List Nat} {c : Nat} (h : c ∈ r) : rkw r c < r.length ∧ r.reverse.getD (rkw r c) 0 = c ∧ ∀ k, k < rkw r c → r.reverse.getD k 0 ≠ c := by
  have h' : c ∈ r.reverse := List.mem_reverse.mpr h
  unfold rkw
  have hlen : r.length = r.reverse.length := by simp
  rw [hlen]
  generalize r.reverse = w at *
  clear hlen h r
  induction w with
  | nil => cases h'
  | cons x w ih =>
    by_cases e : x = c
    · subst e
      simp
    · have hw : c ∈ w := by
        rcases List.mem_cons.mp h' with q | q
        · exact absurd q.symm e
        · exact q
      obtain ⟨h1, h2, h3⟩ := ih hw
      rw [List.takeWhile_cons, if_pos (by simpa using e)]
      simp only [List.length_cons]
      refine ⟨by omega, ?_, fun k hk => ?_⟩
      · rw [List.getD_cons_succ]; exact h2
      · cases k with
        | zero => simpa using e
        | succ k => rw [List.getD_cons_succ]; exact h3 k (by omega)
theorem c_mrankOf (l : Launch) (S : qSt) {i c j : Nat} {Y : YD} {P : Nat → List Nat} (hY : y_ok Y) (hM : MY S Y) (hP : p_ok Y P) (hR : RW1 S i P) (hc : lnof P c = some j) : q_Met q_mt l 2 k_X11_rankOf 1 [.inr (.inr (40, 0)), .inr (.inr (65, i)), .inl (nI c)] S (fun r S' => r = some (.inl (nI (rkw (P j) c))) ∧ S' = S) := by
  obtain ⟨hj3, hcm⟩ := lnof_lt hc
  have hr := st_row hP.1 hj3
  have hc6 := hr.2 c hcm
  obtain ⟨s1, s2, s3⟩ := rkw_spec hcm
  refine q_meth zoX11_rankOf q_fos (Nat.le_of_ble_eq_true rfl) ?_
  intro AT step
  have hL : ∀ (m k : Nat), k + m = rkw (P j) c → AT 1 [some (.inr (.inr (40, 0))), some (.inr (.inr (65, i))), some (.inl (nI c)), some (.inl (nI j)), some (.inl (nI k))] [] S := by
    intro m
    induction m with
    | zero =>
      intro k hk
      have e : k = rkw (P j) c := by omega
      refine step 40 [(1, [true, true, true, true, true])] 1 _ _ _ ?_
      simp only [q_vcs, q_vcc, q_vl, q_vu, ↓reduceIte, Nat.reduceEqDiff, Bool.false_eq_true, q_isc, q_mk, q_msk, zbX11_rankOf, q_pad, q_ent, q_get, q_put, q_nl, q_w, List.cons_append, List.nil_append, q_aks, q_als, Nat.reduceAdd, Nat.reduceLeDiff, Nat.zero_le, true_and, and_true, Option.some.injEq, Sum.inl.injEq, Sum.inr.injEq, true_or, or_true, and_self, q_sw]
      refine q_u1 (by decide) (c_mstanding l S hP.1 hR hj3 (k := k) (by omega)) ?_
      have ew : wl P j k = c := by rw [e]; exact s2
      rw [ew]
      refine ⟨fun _ => ?_, fun h => absurd rfl h⟩
      rw [e]
      exact (by first | trivial | rfl | exact ⟨rfl, rfl⟩)
    | succ m ih =>
      intro k hk
      have hkl : k < (P j).length := by omega
      have h6 := hr.2 _ (wl_mem hkl)
      refine step 40 [(1, [true, true, true, true, true])] 1 _ _ _ ?_
      simp only [q_vcs, q_vcc, q_vl, q_vu, ↓reduceIte, Nat.reduceEqDiff, Bool.false_eq_true, q_isc, q_mk, q_msk, zbX11_rankOf, q_pad, q_ent, q_get, q_put, q_nl, q_w, List.cons_append, List.nil_append, q_aks, q_als, Nat.reduceAdd, Nat.reduceLeDiff, Nat.zero_le, true_and, and_true, Option.some.injEq, Sum.inl.injEq, Sum.inr.injEq, true_or, or_true, and_self, q_sw]
      refine q_u1 (by decide) (c_mstanding l S hP.1 hR hj3 hkl) ?_
      rw [nI_eq (by omega) (by omega), nI_1]
      exact ⟨fun h => absurd h (s3 k (by omega)), fun _ => ih (k + 1) (by omega)⟩
  refine step 40 [(1, [true, true, true, true, true])] 0 _ _ _ ?_
  simp only [q_vcs, q_vcc, q_vl, q_vu, ↓reduceIte, Nat.reduceEqDiff, Bool.false_eq_true, q_isc, q_mk, q_msk, zbX11_rankOf, q_pad, q_ent, q_get, q_put, q_nl, q_w, List.cons_append, List.nil_append, q_aks, q_als, Nat.reduceAdd, Nat.reduceLeDiff, Nat.zero_le, true_and, and_true, Option.some.injEq, Sum.inl.injEq, Sum.inr.injEq, true_or, or_true, and_self, q_sw]
  refine q_u1 (by decide) (c_mlaneOf l S hY hM hP hR (c := c) (by omega)) ?_
  rw [hc]
  exact hL _ 0 (Nat.zero_add _)
theorem rw1_in {S : qSt} {i c j : Nat} {P : Nat → List Nat} (hP : st_ok P) (hR : RW1 S i P) (hj : j < 3) (hl : (P j).length ≤ 5) : RW1 (q_wI (q_wI S 65 i (3 + 6 * j + (P j).length) (nI c)) 65 i j (nI ((P j).length + 1))) i (sp P j (c :: P j)) := by
  intro k hk
  have h6 := (st_row hP hk).1
  by_cases e : k = j
  · subst e
    refine ⟨?_, fun q hq => ?_⟩
    · rw [q_I_wI, if_pos ⟨rfl, rfl, rfl⟩]
      simp [sp]
    · simp only [sp, if_true, List.length_cons] at hq ⊢
      rw [q_I_wI, if_neg (by omega), q_I_wI, List.getD_eq_getElem?_getD, List.reverse_cons]
      by_cases e2 : q = (P k).length
      · subst e2
        simp
      · rw [if_neg (by omega), (hR k hk).2 q (by omega), List.getElem?_append_left (by simp; omega), List.getD_eq_getElem?_getD]
  · have es : sp P j (c :: P j) k = P k := by unfold sp; rw [if_neg e]
    rw [es]
    refine ⟨?_, fun q hq => ?_⟩
    · rw [q_I_wI, if_neg (by omega), q_I_wI, if_neg (by omega)]
      exact (hR k hk).1
    · rw [q_I_wI, if_neg (by omega), q_I_wI, if_neg (by omega)]
      exact (hR k hk).2 q hq
abbrev Fm (i : Nat) : Nat → Nat → Prop := fun f k => f = 65 ∧ k = i
theorem c_mcomesTo (l : Launch) (S : qSt) {i c j : Nat} {P : Nat → List Nat} (hP : st_ok P) (hR : RW1 S i P) (hj : j < 3) (hl : (P j).length ≤ 5) : q_Met q_mt l 0 k_X11_comesTo 0 [.inr (.inr (40, 0)), .inr (.inr (65, i)), .inl (nI c), .inl (nI j)] S (fun _ S' => RW1 S' i (sp P j (c :: P j)) ∧ (∀ q, 21 ≤ q → q_I S' 65 i q = q_I S 65 i q) ∧ fr (Fm i) S S') := by
  refine q_meth zoX11_comesTo q_fos (Nat.le_of_ble_eq_true rfl) ?_
  intro AT step
  refine step 20 [] 0 _ _ _ ?_
  simp only [q_vcs, q_vcc, q_vl, q_vu, ↓reduceIte, Nat.reduceEqDiff, Bool.false_eq_true, q_isc, q_mk, q_msk, zbX11_comesTo, q_pad, q_ent, q_get, q_put, q_nl, q_w, List.cons_append, List.nil_append, q_aks, q_als, Nat.reduceAdd, Nat.reduceLeDiff, Nat.zero_le, true_and, and_true, Option.some.injEq, Sum.inl.injEq, Sum.inr.injEq, true_or, or_true, and_self, q_sw]
  rw [i_0, i_cl (by omega), (hR j hj).1, i_3, i_cl (by omega)]
  have e1 : q_I (q_wI S 65 i (3 + 6 * j + (P j).length) (nI c)) 65 i j = nI (P j).length := by
    rw [q_I_wI, if_neg (by omega)]
    exact (hR j hj).1
  rw [e1, nI_1]
  refine ⟨i_in (by omega) (by decide), i_in (by omega) (by decide), i_in (by omega) (by decide), i_in (by omega) (by decide), rw1_in hP hR hj hl, fun q hq => ?_, fr.wI (fr.wI fr.rf ⟨rfl, rfl⟩) ⟨rfl, rfl⟩⟩
  rw [q_I_wI, if_neg (by omega), q_I_wI, if_neg (by omega)]
theorem c_misLater (l : Launch) (S : qSt) {a b : Nat} {Y : YD} (hY : y_ok Y) (hM : MY S Y) (ha : a < Y 1 0) (hb : b < Y 1 0) : q_Met q_mt l 0 k_X11_isLater 1 [.inr (.inr (40, 0)), .inl (nI a), .inl (nI b)] S (fun r S' => r = some (.inl (bI (soon Y b a))) ∧ S' = S) := by
  have h6 := hY.2.1
  have ka := (hY.2.2.2.2 a ha).2.2.1
  have kb := (hY.2.2.2.2 b hb).2.2.1
  have e1 : q_I S 52 a (Int32.toNatClampNeg 1) = nI (Y 5 a) := (hM.2.2.2.2 a ha).2.1
  have e2 : q_I S 52 b (Int32.toNatClampNeg 1) = nI (Y 5 b) := (hM.2.2.2.2 b hb).2.1
  refine q_meth zoX11_isLater q_fos (Nat.le_of_ble_eq_true rfl) ?_
  intro AT step
  refine step 20 [] 0 _ _ _ ?_
  simp only [q_vcs, q_vcc, q_vl, q_vu, ↓reduceIte, Nat.reduceEqDiff, Bool.false_eq_true, q_isc, q_mk, q_msk, zbX11_isLater, q_pad, q_ent, q_get, q_put, q_nl, q_w, List.cons_append, List.nil_append, q_aks, q_als, Nat.reduceAdd, Nat.reduceLeDiff, Nat.zero_le, true_and, and_true, Option.some.injEq, Sum.inl.injEq, Sum.inr.injEq, true_or, or_true, and_self, q_sw]
  rw [i_cl (by omega), i_cl (by omega), e1, e2, nI_ltI (by omega) (by omega), nI_eq (by omega) (by omega), nI_leI (by omega) (by omega)]
  have i1 : vp_in (nI a) 6 := i_in (by omega) (by decide)
  have i2 : vp_in (nI b) 6 := i_in (by omega) (by decide)
  have i3 : vp_in 1 3 := i_in (k := 1) (by decide) (by decide)
  unfold soon
  refine ⟨i1, i3, i2, i3, fun h => ?_, fun h => ⟨i1, i3, i2, i3, fun h1 => ?_, fun h1 => ⟨fun h2 => ?_, fun h2 => ?_⟩⟩⟩
  · rw [decide_eq_true (by omega)]; exact (by first | trivial | rfl | exact ⟨rfl, rfl⟩)
  · rw [decide_eq_false (by omega)]; exact (by first | trivial | rfl | exact ⟨rfl, rfl⟩)
  · rw [decide_eq_false (by omega)]; exact (by first | trivial | rfl | exact ⟨rfl, rfl⟩)
  · rw [decide_eq_true (by omega)]; exact (by first | trivial | rfl | exact ⟨rfl, rfl⟩)
/-- the pairs of a lane -/
def pr1 (Y : YD) : List Nat → Nat
  | [] => 0
  | c :: r => r.countP (fun x => soon Y x c) + pr1 Y r
theorem bk_pr1 (Y : YD) : ∀ {r : List Nat}, r.length ≤ 7 → bk Y 6 r = pr1 Y r
  | [], _ => rfl
  | c :: r, h => by
    simp only [List.length_cons] at h
    have h2 := List.countP_le_length (p := fun x => soon Y x c) (l := r)
    simp only [bk, pr1, bk_pr1 Y (r := r) (by omega)]
    omega
/-- those from the wall on, the last k of a lane -/
def sfx (r : List Nat) (k : Nat) : List Nat := (r.reverse.take k).reverse
theorem sfx_succ {P : Nat → List Nat} {j k : Nat} (hk : k < (P j).length) : sfx (P j) (k + 1) = wl P j k :: sfx (P j) k := by
  unfold sfx
  rw [take_wl hk, List.reverse_append]
  rfl
theorem sfx_all (r : List Nat) : sfx r r.length = r := by
  unfold sfx
  rw [List.take_of_length_le (by simp), List.reverse_reverse]
theorem sfx_wl {P : Nat → List Nat} {j k q : Nat} (hk : k ≤ (P j).length) (hq : q < k) : (sfx (P j) k).reverse.getD q 0 = wl P j q := by
  unfold sfx wl
  rw [List.reverse_reverse, List.getD_eq_getElem?_getD, List.getElem?_take_of_lt hq, List.getD_eq_getElem?_getD]
theorem cnt_take {p : Nat → Bool} {P : Nat → List Nat} {j k : Nat} (hk : k < (P j).length) : ((P j).reverse.take (k + 1)).countP p = ((P j).reverse.take k).countP p + (if p (wl P j k) then 1 else 0) := by
  rw [take_wl hk, List.countP_append]
  simp [List.countP_cons]
