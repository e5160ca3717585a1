/-! the reference: the first of an order -/
def sel (R : Nat → Nat → Bool) (ok : Nat → Bool) : Nat → Option Nat
  | 0 => none
  | n + 1 => if ok n then (match sel R ok n with | none => some n | some b => if R n b then some n else some b) else sel R ok n
theorem sel_none {R : Nat → Nat → Bool} {ok : Nat → Bool} : ∀ {n : Nat}, sel R ok n = none → ∀ c, c < n → ok c = false
  | 0, _, c, hc => by omega
  | n + 1, h, c, hc => by
    unfold sel at h
    cases ho : ok n with
    | true =>
      rw [ho] at h
      simp only [if_true] at h
      split at h
      · cases h
      · split at h <;> cases h
    | false =>
      rw [ho] at h
      by_cases e : c = n
      · rw [e]; exact ho
      · exact sel_none (n := n) h c (by omega)
theorem sel_some {R : Nat → Nat → Bool} (hR : so_ok R) {ok : Nat → Bool} : ∀ {n b : Nat}, sel R ok n = some b → b < n ∧ ok b = true ∧ ∀ c, c < n → ok c = true → c ≠ b → R b c = true
  | 0, b, h => by cases h
  | n + 1, b, h => by
    unfold sel at h
    cases ho : ok n with
    | false =>
      rw [ho] at h
      obtain ⟨h1, h2, h3⟩ := sel_some hR (n := n) h
      refine ⟨by omega, h2, fun c hc hk hn => ?_⟩
      by_cases e : c = n
      · rw [e, ho] at hk; cases hk
      · exact h3 c (by omega) hk hn
    | true =>
      rw [ho] at h
      simp only [if_true] at h
      cases hs : sel R ok n with
      | none =>
        rw [hs] at h
        cases h
        refine ⟨by omega, ho, fun c hc hk hn => ?_⟩
        rw [sel_none hs c (by omega)] at hk
        cases hk
      | some b' =>
        rw [hs] at h
        obtain ⟨h1, h2, h3⟩ := sel_some hR hs
        dsimp only at h
        cases hr : R n b' with
        | true =>
          rw [hr] at h
          simp only [if_true] at h
          cases h
          refine ⟨by omega, ho, fun c hc hk hn => ?_⟩
          by_cases e : c = b'
          · rw [e]; exact hr
          · exact hR.2.1 n b' c hr (h3 c (by omega) hk e)
        | false =>
          rw [hr] at h
          simp at h
          subst h
          refine ⟨by omega, h2, fun c hc hk hn => ?_⟩
          by_cases e : c = n
          · subst e
            rcases hR.2.2 c b' hn with q | q
            · rw [hr] at q; cases q
            · exact q
          · exact h3 c (by omega) hk hn
theorem lvc_lt {R : Nat → Nat → Bool} (hR : so_ok R) {n i j : Nat} (hij : i < j) (hj : j < n) : R (lvc R n i) (lvc R n j) = true := by
  obtain ⟨a1, a2⟩ := lvc_spec hR (n := n) (i := i) (by omega)
  obtain ⟨b1, b2⟩ := lvc_spec hR (n := n) (i := j) hj
  have hne : lvc R n i ≠ lvc R n j := fun q => by rw [q, b2] at a2; omega
  rcases hR.2.2 _ _ hne with q | q
  · exact q
  · have := rk_mono hR b1 q
    omega
theorem ord_pair {R : Nat → Nat → Bool} (hR : so_ok R) (n : Nat) : (ordL R n).Pairwise (fun a b => R a b = true) := by
  unfold ordL
  rw [List.pairwise_map]
  rw [List.pairwise_iff_getElem]
  intro i j hi hj hij
  simp only [List.length_range] at hi hj
  simp only [List.getElem_range]
  exact lvc_lt hR hij hj
theorem sel_find {R : Nat → Nat → Bool} (hR : so_ok R) (ok : Nat → Bool) (n : Nat) : sel R ok n = (ordL R n).find? ok := by
  cases hs : sel R ok n with
  | none =>
    symm
    rw [List.find?_eq_none]
    intro c hc
    rw [sel_none hs c ((ord_mem hR).mp hc)]
    decide
  | some b =>
    obtain ⟨h1, h2, h3⟩ := sel_some hR hs
    cases hf : (ordL R n).find? ok with
    | none =>
      rw [List.find?_eq_none] at hf
      exact absurd h2 (hf b ((ord_mem hR).mpr h1))
    | some b' =>
      obtain ⟨k1, as, bs', k2, k3⟩ := List.find?_eq_some_iff_append.mp hf
      by_cases e : b' = b
      · rw [e]
      · have hb' : b' < n := (ord_mem hR).mp (by rw [k2]; simp)
        have r1 := h3 b' hb' k1 e
        have hp := ord_pair hR n
        rw [k2] at hp
        have hbm : b ∈ ordL R n := (ord_mem hR).mpr h1
        rw [k2] at hbm
        rcases List.mem_append.mp hbm with q | q
        · have := k3 b q
          rw [h2] at this
          cases this
        · rcases List.mem_cons.mp q with q | q
          · exact absurd q.symm e
          · have r2 := (List.pairwise_cons.mp (List.pairwise_append.mp hp).2.1).1 b q
            have := hR.2.1 b b' b r1 r2
            rw [hR.1 b] at this
            cases this
theorem bs_in (P : Nat → List Nat) (c : Nat) : (bs P).testBit c = (lnof P c).isSome := by
  unfold bs lnof
  rw [Nat.testBit_or, Nat.testBit_or, bo_bit, bo_bit, bo_bit]
  by_cases h0 : c ∈ P 0
  · simp [h0]
  · by_cases h1 : c ∈ P 1
    · simp [h0, h1]
    · by_cases h2 : c ∈ P 2
      · simp [h0, h1, h2]
      · simp [h0, h1, h2]
theorem c_mlatestOut (l : Launch) (S : qSt) {i u : Nat} {Y : YD} {P : Nat → List Nat} (hY : y_ok Y) (hM : MY S Y) (hP : p_ok Y P) (hR : RW1 S i P) (hu : u < 64) : q_Met q_mt l 2 k_X11_latestOut 1 [.inr (.inr (40, 0)), .inr (.inr (65, i)), .inl (nI u)] S (fun r S' => r = some (.inl (oI ((ordL (homs Y) (Y 1 0)).find? (fun c => !((bs P ||| u).testBit c))))) ∧ S' = S) := by
  have h6 := hY.2.1
  rw [← sel_find (homs_ok Y)]
  have hbu : bs P ||| u < 64 := Nat.or_lt_two_pow (n := 6) (bs_lt hP.1) hu
  refine q_meth zoX11_latestOut q_fos (Nat.le_of_ble_eq_true rfl) ?_
  intro AT step
  have t1 : q_I S 44 0 (Int32.toNatClampNeg 1) = nI (Y 1 0) := hM.2.1
  have hL : ∀ (m j : Nat), j + m = Y 1 0 → AT 1 [some (.inr (.inr (40, 0))), some (.inr (.inr (65, i))), some (.inl (nI u)), some (.inl (oI (sel (homs Y) (fun c => !((bs P ||| u).testBit c)) j))), some (.inl (nI (bs P))), some (.inl (nI j))] [] S := by
    intro m
    induction m with
    | zero =>
      intro j hj
      refine step 40 [(1, [true, true, true, true, true, true])] 1 _ _ _ ?_
      simp only [q_vcs, q_vcc, q_vl, q_vu, ↓reduceIte, Nat.reduceEqDiff, Bool.false_eq_true, q_isc, q_mk, q_msk, zbX11_latestOut, q_pad, q_ent, q_get, q_put, q_nl, q_w, List.cons_append, List.nil_append, q_aks, q_als, Nat.reduceAdd, Nat.reduceLeDiff, Nat.zero_le, true_and, and_true, Option.some.injEq, Sum.inl.injEq, Sum.inr.injEq, true_or, or_true, and_self, q_sw]
      rw [t1, nI_leI (by omega) (by omega)]
      refine ⟨i_in (k := 1) (by decide) (by decide), fun _ => ?_, fun h => absurd (by omega) h⟩
      rw [show j = Y 1 0 by omega]
    | succ m ih =>
      intro j hj
      have ih := ih (j + 1) (by omega)
      unfold sel at ih
      refine step 40 [(1, [true, true, true, true, true, true])] 1 _ _ _ ?_
      simp only [q_vcs, q_vcc, q_vl, q_vu, ↓reduceIte, Nat.reduceEqDiff, Bool.false_eq_true, q_isc, q_mk, q_msk, zbX11_latestOut, q_pad, q_ent, q_get, q_put, q_nl, q_w, List.cons_append, List.nil_append, q_aks, q_als, Nat.reduceAdd, Nat.reduceLeDiff, Nat.zero_le, true_and, and_true, Option.some.injEq, Sum.inl.injEq, Sum.inr.injEq, true_or, or_true, and_self, q_sw]
      rw [t1, nI_leI (by omega) (by omega), fa_or]
      refine ⟨i_in (k := 1) (by decide) (by decide), fun h => absurd h (by omega), fun _ => ?_⟩
      refine q_u1 (by decide) (c_mhas l S (n := bs P ||| u) (k := j) (by omega) (by omega)) ?_
      rw [bI_0, nI_1]
      cases hb : (bs P ||| u).testBit j with
      | true =>
        rw [hb] at ih
        exact ⟨fun h => (by cases h), fun _ => ih⟩
      | false =>
        rw [hb] at ih
        simp only [Bool.not_false, if_true] at ih
        refine ⟨fun _ => ?_, fun h => absurd rfl h⟩
        cases hs : sel (homs Y) (fun c => !((bs P ||| u).testBit c)) j with
        | none =>
          rw [hs] at ih
          exact ⟨fun _ => ih, fun h => absurd rfl h⟩
        | some b =>
          rw [hs] at ih
          have hbj := (sel_some (homs_ok Y) hs).1
          dsimp only at ih
          have e1 : q_I S 52 j (Int32.toNatClampNeg 1) = nI (Y 5 j) := (hM.2.2.2.2 j (by omega)).2.1
          have e2 : q_I S 52 b (Int32.toNatClampNeg 1) = nI (Y 5 b) := (hM.2.2.2.2 b (by omega)).2.1
          have ka := (hY.2.2.2.2 j (by omega)).2.2.1
          have kb := (hY.2.2.2.2 b (by omega)).2.2.1
          refine ⟨fun h => absurd h (i_ne1 (by omega)), fun _ => ?_⟩
          rw [show oI (some b) = nI b from rfl, i_cl (by omega), i_cl (by omega), e1, e2, nI_leI (by omega) (by omega)]
          refine ⟨i_in (by omega) (by decide), i_in (k := 1) (by decide) (by decide), i_in (by omega) (by decide), i_in (k := 1) (by decide) (by decide), fun h => ?_, fun h => ?_⟩
          · rw [if_neg (show ¬ homs Y j b = true by unfold homs; simp; omega)] at ih
            exact ih
          · rw [if_pos (show homs Y j b = true by unfold homs; simp; omega)] at ih
            exact ih
  refine step 40 [(1, [true, true, true, true, true, true])] 0 _ _ _ ?_
  simp only [q_vcs, q_vcc, q_vl, q_vu, ↓reduceIte, Nat.reduceEqDiff, Bool.false_eq_true, q_isc, q_mk, q_msk, zbX11_latestOut, q_pad, q_ent, q_get, q_put, q_nl, q_w, List.cons_append, List.nil_append, q_aks, q_als, Nat.reduceAdd, Nat.reduceLeDiff, Nat.zero_le, true_and, and_true, Option.some.injEq, Sum.inl.injEq, Sum.inr.injEq, true_or, or_true, and_self, q_sw]
  refine q_u1 (by decide) (c_minsideOf l S hY hM hP hR) ?_
  exact hL (Y 1 0) 0 (by omega)
theorem c_mearliest (l : Launch) (S : qSt) {i : Nat} {Y : YD} {P : Nat → List Nat} (hY : y_ok Y) (hM : MY S Y) (hP : p_ok Y P) (hR : RW1 S i P) : q_Met q_mt l 2 k_X11_earliest 1 [.inr (.inr (40, 0)), .inr (.inr (65, i))] S (fun r S' => r = some (.inl (oI ((ordL (soon Y) (Y 1 0)).find? (fun c => (lnof P c).isSome)))) ∧ S' = S) := by
  have h6 := hY.2.1
  rw [← sel_find (soon_ok Y)]
  have hbu : bs P < 64 := bs_lt hP.1
  refine q_meth zoX11_earliest q_fos (Nat.le_of_ble_eq_true rfl) ?_
  intro AT step
  have t1 : q_I S 44 0 (Int32.toNatClampNeg 1) = nI (Y 1 0) := hM.2.1
  have hL : ∀ (m j : Nat), j + m = Y 1 0 → AT 1 [some (.inr (.inr (40, 0))), some (.inr (.inr (65, i))), some (.inl (oI (sel (soon Y) (fun c => (lnof P c).isSome) j))), some (.inl (nI (bs P))), some (.inl (nI j))] [] S := by
    intro m
    induction m with
    | zero =>
      intro j hj
      refine step 40 [(1, [true, true, true, true, true])] 1 _ _ _ ?_
      simp only [q_vcs, q_vcc, q_vl, q_vu, ↓reduceIte, Nat.reduceEqDiff, Bool.false_eq_true, q_isc, q_mk, q_msk, zbX11_earliest, q_pad, q_ent, q_get, q_put, q_nl, q_w, List.cons_append, List.nil_append, q_aks, q_als, Nat.reduceAdd, Nat.reduceLeDiff, Nat.zero_le, true_and, and_true, Option.some.injEq, Sum.inl.injEq, Sum.inr.injEq, true_or, or_true, and_self, q_sw]
      rw [t1, nI_leI (by omega) (by omega)]
      refine ⟨i_in (k := 1) (by decide) (by decide), fun _ => ?_, fun h => absurd (by omega) h⟩
      rw [show j = Y 1 0 by omega]
    | succ m ih =>
      intro j hj
      have ih := ih (j + 1) (by omega)
      unfold sel at ih
      refine step 40 [(1, [true, true, true, true, true])] 1 _ _ _ ?_
      simp only [q_vcs, q_vcc, q_vl, q_vu, ↓reduceIte, Nat.reduceEqDiff, Bool.false_eq_true, q_isc, q_mk, q_msk, zbX11_earliest, q_pad, q_ent, q_get, q_put, q_nl, q_w, List.cons_append, List.nil_append, q_aks, q_als, Nat.reduceAdd, Nat.reduceLeDiff, Nat.zero_le, true_and, and_true, Option.some.injEq, Sum.inl.injEq, Sum.inr.injEq, true_or, or_true, and_self, q_sw]
      rw [t1, nI_leI (by omega) (by omega)]
      refine ⟨i_in (k := 1) (by decide) (by decide), fun h => absurd h (by omega), fun _ => ?_⟩
      refine q_u1 (by decide) (c_mhas l S (n := bs P) (k := j) (by omega) (by omega)) ?_
      rw [bI_0, nI_1, bs_in]
      cases hb : (lnof P j).isSome with
      | false =>
        rw [hb] at ih
        exact ⟨fun _ => ih, fun h => absurd rfl h⟩
      | true =>
        rw [hb] at ih
        simp only [if_true] at ih
        refine ⟨fun h => (by cases h), fun _ => ?_⟩
        cases hs : sel (soon Y) (fun c => (lnof P c).isSome) j with
        | none =>
          rw [hs] at ih
          exact ⟨fun _ => ih, fun h => absurd rfl h⟩
        | some b =>
          rw [hs] at ih
          have hbj := (sel_some (soon_ok Y) hs).1
          dsimp only at ih
          refine ⟨fun h => absurd h (i_ne1 (by omega)), fun _ => ?_⟩
          refine q_u1 (by decide) (c_misLater l S hY hM (a := b) (b := j) (by omega) (by omega)) ?_
          rw [bI_0]
          refine ⟨fun h => ?_, fun h => ?_⟩
          · rw [if_neg (show ¬ soon Y j b = true by rw [h]; decide)] at ih
            exact ih
          · rw [if_pos (ts_nf h)] at ih
            exact ih
  refine step 40 [(1, [true, true, true, true, true])] 0 _ _ _ ?_
  simp only [q_vcs, q_vcc, q_vl, q_vu, ↓reduceIte, Nat.reduceEqDiff, Bool.false_eq_true, q_isc, q_mk, q_msk, zbX11_earliest, q_pad, q_ent, q_get, q_put, q_nl, q_w, List.cons_append, List.nil_append, q_aks, q_als, Nat.reduceAdd, Nat.reduceLeDiff, Nat.zero_le, true_and, and_true, Option.some.injEq, Sum.inl.injEq, Sum.inr.injEq, true_or, or_true, and_self, q_sw]
  refine q_u1 (by decide) (c_minsideOf l S hY hM hP hR) ?_
  exact hL (Y 1 0) 0 (by omega)
