/-! the reference: coming home, leaving -/
def tot (P : Nat → List Nat) : Nat := (P 0).length + ((P 1).length + (P 2).length)
theorem er_len : ∀ {r s : List Nat}, (∀ c ∈ r, c < 6) → (∀ c ∈ s, c < 6) → er r = er s → r = s
  | [], [], _, _, _ => rfl
  | [], c :: s, _, _, h => by simp only [er] at h; omega
  | c :: r, [], _, _, h => by simp only [er] at h; omega
  | c :: r, d :: s, hr, hs, h => by
    have h1 := hr c List.mem_cons_self
    have h2 := hs d List.mem_cons_self
    simp only [er] at h
    have e : c = d := by omega
    have e2 : er r = er s := by omega
    rw [e, er_len (fun x hx => hr x (List.mem_cons_of_mem _ hx)) (fun x hx => hs x (List.mem_cons_of_mem _ hx)) e2]
theorem es_row_inj {P Q : Nat → List Nat} (hP : st_ok P) (hQ : st_ok Q) (h : es P = es Q) {k : Nat} (hk : k < 3) : P k = Q k := by
  have h1 := es_row hP hk
  have h2 := es_row hQ hk
  rw [h, h2] at h1
  exact (er_len (st_row hQ hk).2 (st_row hP hk).2 h1).symm
theorem es_tot {P Q : Nat → List Nat} (hP : st_ok P) (hQ : st_ok Q) (h : es P = es Q) : tot P = tot Q := by
  unfold tot
  rw [es_row_inj hP hQ h (k := 0) (by decide), es_row_inj hP hQ h (k := 1) (by decide), es_row_inj hP hQ h (k := 2) (by decide)]
theorem tot_in {P : Nat → List Nat} {k c : Nat} (hk : k < 3) : tot (sp P k (c :: P k)) = tot P + 1 := by
  unfold tot sp
  match k, hk with
  | 0, _ => simp; omega
  | 1, _ => simp; omega
  | 2, _ => simp; omega
theorem find_app {ok : Nat → Bool} {a b : List Nat} (h : ∀ x ∈ a, ok x = false) : (a ++ b).find? ok = b.find? ok := by
  rw [List.find?_append, List.find?_eq_none.mpr (fun x hx => by rw [h x hx]; decide)]
  rfl
set_option maxHeartbeats 1000000 in
theorem c_mswaps (l : Launch) (S : qSt) {i : Nat} {Y : YD} {P : Nat → List Nat} (hY : y_ok Y) (hM : MY S Y) (hP : p_ok Y P) (hR : RW1 S i P) : q_Met q_mt l 3 k_X11_swaps 1 [.inr (.inr (40, 0)), .inr (.inr (65, i))] S (fun r S' => r = some (.inl (bI (decide (es (cho Y P) ≠ es P)))) ∧ RW1 S' i (cho Y P) ∧ (∀ q, 21 ≤ q → q_I S' 65 i q = q_I S 65 i q) ∧ fr (Fm i) S S') := by
  have h6 := hY.2.1
  have h3 := hY.1
  refine q_meth zoX11_swaps q_fos (Nat.le_of_ble_eq_true rfl) ?_
  intro AT step
  have my : ∀ {S1 : qSt}, fr (Fm i) S S1 → MY S1 Y := fun hf => hM.fr hf (fun _ h => by cases h.1) (fun _ h => by cases h.1) (fun _ h => by cases h.1) (fun _ h => by cases h.1)
  have hL : ∀ (cs pre : List Nat) (u : Nat) (a : Bool) (Q : Nat → List Nat) (S1 : qSt) (x : Int32), pre ++ cs = ordL (homs Y) (Y 1 0) → (∀ x ∈ pre, (bs Q ||| u).testBit x = true) → (∀ x ∈ cs, u.testBit x = false) → u < 64 → p_ok Y Q → chome Y cs Q = cho Y P → (a = false → Q = P) → (a = true → tot P < tot Q) → RW1 S1 i Q → (∀ q, 21 ≤ q → q_I S1 65 i q = q_I S 65 i q) → fr (Fm i) S S1 → x = oI ((ordL (homs Y) (Y 1 0)).find? (fun c => !((bs Q ||| u).testBit c))) → AT 1 [some (.inr (.inr (40, 0))), some (.inr (.inr (65, i))), some (.inl (nI u)), some (.inl (bI a)), some (.inl x), none] [] S1 := by
    intro cs
    induction cs with
    | nil =>
      intro pre u a Q S1 x hc h1 h2 hu hQ hch ha1 ha2 hR1 hq1 hf1 hx
      have hn : (ordL (homs Y) (Y 1 0)).find? (fun c => !((bs Q ||| u).testBit c)) = none := by
        rw [← hc, List.append_nil, List.find?_eq_none]
        intro y hy
        rw [h1 y hy]
        decide
      rw [hn] at hx
      subst hx
      refine step 40 [(1, [true, true, true, true, true, false])] 1 _ _ _ ?_
      simp only [q_vcs, q_vcc, q_vl, q_vu, ↓reduceIte, Nat.reduceEqDiff, Bool.false_eq_true, q_isc, q_mk, q_msk, zbX11_swaps, q_pad, q_ent, q_get, q_put, q_nl, q_w, List.cons_append, List.nil_append, q_aks, q_als, Nat.reduceAdd, Nat.reduceLeDiff, Nat.zero_le, true_and, and_true, Option.some.injEq, Sum.inl.injEq, Sum.inr.injEq, true_or, or_true, and_self, q_sw]
      have hch : Q = cho Y P := hch
      refine ⟨fun _ => ?_, fun h => absurd rfl h⟩
      have hdec : decide (es (cho Y P) ≠ es P) = a := by
        rw [← hch]
        cases a with
        | false => rw [ha1 rfl]; simp
        | true =>
          have := ha2 rfl
          have hne : es Q ≠ es P := fun q => by have := es_tot hQ.1 hP.1 q; omega
          simp [hne]
      rw [hdec]
      have hb : bI a = 0 ∨ bI a = 1 := by cases a <;> decide
      rw [hch] at hR1
      exact ⟨hb, rfl, hR1, hq1, hf1⟩
    | cons c cs ih =>
      intro pre u a Q S1 x hc h1 h2 hu hQ hch ha1 ha2 hR1 hq1 hf1 hx
      have hcm : c ∈ ordL (homs Y) (Y 1 0) := by rw [← hc]; simp
      have hcY : c < Y 1 0 := (ord_mem (homs_ok Y)).mp hcm
      have hnd : (pre ++ c :: cs).Nodup := by
        rw [hc]
        refine (ord_pair (homs_ok Y) _).imp ?_
        intro a b hab q
        rw [q, (homs_ok Y).1 b] at hab
        cases hab
      have hc' : (pre ++ [c]) ++ cs = ordL (homs Y) (Y 1 0) := by rw [← hc]; simp
      have hucs : ∀ y ∈ cs, y ≠ c := fun y hy q => by
        have := (List.nodup_cons.mp (List.nodup_append.mp hnd).2.1).1
        rw [q] at hy
        exact this hy
      unfold chome at hch
      cases hl : lnof Q c with
      | some k =>
        rw [hl] at hch
        refine ih (pre ++ [c]) u a Q S1 x hc' (fun y hy => ?_) (fun y hy => h2 y (List.mem_cons_of_mem _ hy)) hu hQ hch ha1 ha2 hR1 hq1 hf1 hx
        rcases List.mem_append.mp hy with q | q
        · exact h1 y q
        · simp only [List.mem_cons, List.not_mem_nil, or_false] at q
          rw [q, Nat.testBit_or, bs_in, hl]
          simp
      | none =>
        rw [hl] at hch
        dsimp only at hch
        have hxc : x = nI c := by
          rw [hx, ← hc, find_app (fun y hy => by rw [h1 y hy]; rfl)]
          have : (bs Q ||| u).testBit c = false := by
            rw [Nat.testBit_or, bs_in, hl, h2 c List.mem_cons_self]
            rfl
          rw [List.find?_cons, this]
          rfl
        subst hxc
        have hp2 : (2 : Nat) ^ c < 2 ^ 6 := Nat.pow_lt_pow_right (by decide) (by omega)
        have hu2 : u ||| 2 ^ c < 64 := Nat.or_lt_two_pow (n := 6) hu hp2
        have pre2 : ∀ (Q' : Nat → List Nat), (∀ y, (bs Q).testBit y = true → (bs Q').testBit y = true) → ∀ y ∈ pre ++ [c], (bs Q' ||| (u ||| 2 ^ c)).testBit y = true := fun Q' hQQ y hy => by
          rcases List.mem_append.mp hy with q | q
          · have := h1 y q
            rw [Nat.testBit_or, Bool.or_eq_true] at this
            rw [Nat.testBit_or, Nat.testBit_or]
            rcases this with t | t
            · rw [hQQ y t]; simp
            · rw [t]; simp
          · simp only [List.mem_cons, List.not_mem_nil, or_false] at q
            rw [q, Nat.testBit_or, fb_bit_set]
            simp
        have cs2 : ∀ y ∈ cs, (u ||| 2 ^ c).testBit y = false := fun y hy => by
          rw [fb_bit_set, h2 y (List.mem_cons_of_mem _ hy)]
          simp [hucs y hy]
        have next : ∀ (a' : Bool) (Q' : Nat → List Nat) (S2 : qSt) (z : Int32), (∀ y, (bs Q).testBit y = true → (bs Q').testBit y = true) → p_ok Y Q' → chome Y cs Q' = cho Y P → (a' = false → Q' = P) → (a' = true → tot P < tot Q') → RW1 S2 i Q' → (∀ q, 21 ≤ q → q_I S2 65 i q = q_I S 65 i q) → fr (Fm i) S S2 → AT 3 [some (.inr (.inr (40, 0))), some (.inr (.inr (65, i))), some (.inl (nI (u ||| 2 ^ c))), some (.inl (bI a')), some (.inl (nI c)), some (.inl z)] [] S2 := by
          intro a' Q' S2 z hQQ hQ' hch' ha1' ha2' hR2 hq2 hf2
          refine step 40 [(1, [true, true, true, true, true, false])] 3 _ _ _ ?_
          simp only [q_vcs, q_vcc, q_vl, q_vu, ↓reduceIte, Nat.reduceEqDiff, Bool.false_eq_true, q_isc, q_mk, q_msk, zbX11_swaps, q_pad, q_ent, q_get, q_put, q_nl, q_w, List.cons_append, List.nil_append, q_aks, q_als, Nat.reduceAdd, Nat.reduceLeDiff, Nat.zero_le, true_and, and_true, Option.some.injEq, Sum.inl.injEq, Sum.inr.injEq, true_or, or_true, and_self, q_sw]
          refine q_u1 (by decide) (c_mlatestOut l S2 hY (my hf2) hQ' hR2 hu2) ?_
          exact ih (pre ++ [c]) (u ||| 2 ^ c) a' Q' S2 _ hc' (pre2 Q' hQQ) cs2 hu2 hQ' hch' ha1' ha2' hR2 hq2 hf2 rfl
        have hM1 := my hf1
        refine step 40 [(1, [true, true, true, true, true, false]), (3, [true, true, true, true, true, true])] 1 _ _ _ ?_
        simp only [q_vcs, q_vcc, q_vl, q_vu, ↓reduceIte, Nat.reduceEqDiff, Bool.false_eq_true, q_isc, q_mk, q_msk, zbX11_swaps, q_pad, q_ent, q_get, q_put, q_nl, q_w, List.cons_append, List.nil_append, q_aks, q_als, Nat.reduceAdd, Nat.reduceLeDiff, Nat.zero_le, true_and, and_true, Option.some.injEq, Sum.inl.injEq, Sum.inr.injEq, true_or, or_true, and_self, q_sw]
        rw [i_1sh c (by omega), fa_or]
        refine ⟨fun h => absurd h (i_ne1 (by omega)), fun _ => ?_⟩
        refine q_u1 (by decide) (c_mroomiest l S1 hY hM1 hQ hR1) ?_
        cases hw : wid Y Q (Y 0 0) with
        | none =>
          rw [hw] at hch
          exact ⟨fun _ => next a Q S1 _ (fun y h => h) hQ hch ha1 ha2 hR1 hq1 hf1, fun h => absurd rfl h⟩
        | some k =>
          rw [hw] at hch
          dsimp only at hch
          have hk := wid_lt Y Q hw
          refine ⟨fun h => absurd h (i_ne1 (by omega)), fun _ => ?_⟩
          refine q_u1 (by decide) (c_mroomOf l S1 hY hM1 hQ hR1 (j := k) hk) ?_
          have e0 : q_I S1 52 c (Int32.toNatClampNeg 0) = nI (lgt Y c) := by
            unfold lgt
            rw [if_pos hcY]
            exact (hM1.2.2.2.2 c hcY).1
          rw [i_cl (by omega), e0, rmI_le hY hQ.1 (by omega) (by have := lgt_le hY c; omega)]
          refine ⟨i_in (by omega) (by decide), i_in (by decide) (by decide), fun h => ?_, fun h => ?_⟩
          · rw [if_pos h] at hch
            have hin := p_in hY hQ hcY hl hk
            refine ⟨_, _, (by decide : 0 < 3), c_mcomesTo l S1 (c := c) hQ.1 hR1 (j := k) (by omega) hin.2, fun S2 g => ?_⟩
            have htt := tot_in (P := Q) (k := k) (c := c) (by omega)
            refine next true _ S2 _ (fun y hy => ?_) hin.1 hch (fun h => by cases h) (fun _ => ?_) g.1 (fun q hq => by rw [g.2.1 q hq, hq1 q hq]) (hf1.tr g.2.2)
            · rw [bs_in] at hy ⊢
              cases hq : lnof Q y with
              | none => rw [hq] at hy; cases hy
              | some k2 =>
                obtain ⟨q1, q2⟩ := lnof_lt hq
                have hm : y ∈ sp Q k (c :: Q k) k2 := by
                  unfold sp
                  split
                  · rename_i e; rw [e] at q2; exact List.mem_cons_of_mem _ q2
                  · exact q2
                rw [(lnof_iff hin.1 q1).mpr hm]
                rfl
            · cases a with
              | false => rw [ha1 rfl] at htt ⊢; omega
              | true => have := ha2 rfl; omega
          · rw [if_neg h] at hch
            exact next a Q S1 _ (fun y h => h) hQ hch ha1 ha2 hR1 hq1 hf1
  refine step 40 [(1, [true, true, true, true, true, false])] 0 _ _ _ ?_
  simp only [q_vcs, q_vcc, q_vl, q_vu, ↓reduceIte, Nat.reduceEqDiff, Bool.false_eq_true, q_isc, q_mk, q_msk, zbX11_swaps, q_pad, q_ent, q_get, q_put, q_nl, q_w, List.cons_append, List.nil_append, q_aks, q_als, Nat.reduceAdd, Nat.reduceLeDiff, Nat.zero_le, true_and, and_true, Option.some.injEq, Sum.inl.injEq, Sum.inr.injEq, true_or, or_true, and_self, q_sw]
  refine q_u1 (by decide) (c_mlatestOut l S hY hM hP hR (u := 0) (by decide)) ?_
  exact hL (ordL (homs Y) (Y 1 0)) [] 0 false P S _ rfl (fun x h => by cases h) (fun x _ => by simp) (by decide) hP rfl (fun _ => rfl) (fun h => by cases h) hR (fun _ _ => rfl) fr.rf rfl
/-- a front drives out -/
theorem rw1_out {S : qSt} {i j : Nat} {P : Nat → List Nat} (hP : st_ok P) (hR : RW1 S i P) (hj : j < 3) (hl : P j ≠ []) : RW1 (q_wI S 65 i j (nI ((P j).length - 1))) i (sp P j (P j).tail) := by
  intro k hk
  have h6 := (st_row hP hk).1
  by_cases e : k = j
  · subst e
    simp only [sp, if_true, List.length_tail]
    refine ⟨?_, fun q hq => ?_⟩
    · rw [q_I_wI, if_pos ⟨rfl, rfl, rfl⟩]
    · rw [q_I_wI, if_neg (by omega), (hR k hk).2 q (by omega)]
      cases hr : P k with
      | nil => exact absurd hr hl
      | cons c r =>
        rw [hr] at hq
        simp only [List.length_cons, Nat.add_sub_cancel] at hq
        rw [List.tail_cons, List.getD_eq_getElem?_getD, List.reverse_cons, List.getElem?_append_left (by simp; omega), List.getD_eq_getElem?_getD]
  · have es : sp P j (P j).tail k = P k := by unfold sp; rw [if_neg e]
    rw [es]
    refine ⟨?_, fun q hq => ?_⟩
    · rw [q_I_wI, if_neg (by omega)]
      exact (hR k hk).1
    · rw [q_I_wI, if_neg (by omega)]
      exact (hR k hk).2 q hq
theorem head_ne {r : List Nat} {c : Nat} (h : r.head? = some c) : r ≠ [] := fun q => by rw [q] at h; cases h
theorem c_mleaveAll (l : Launch) (S : qSt) {i : Nat} {Y : YD} {P : Nat → List Nat} (hY : y_ok Y) (hM : MY S Y) (hP : p_ok Y P) (hR : RW1 S i P) : q_Met q_mt l 3 k_X11_leaveAll 0 [.inr (.inr (40, 0)), .inr (.inr (65, i))] S (fun _ S' => RW1 S' i (lo Y P) ∧ p_ok Y (lo Y P) ∧ fr (Fm i) S S') := by
  have h6 := hY.2.1
  have h3 := hY.1
  refine q_meth zoX11_leaveAll q_fos (Nat.le_of_ble_eq_true rfl) ?_
  intro AT step
  have my : ∀ {S1 : qSt}, fr (Fm i) S S1 → MY S1 Y := fun hf => hM.fr hf (fun _ h => by cases h.1) (fun _ h => by cases h.1) (fun _ h => by cases h.1) (fun _ h => by cases h.1)
  have hL : ∀ (cs pre : List Nat) (Q : Nat → List Nat) (S1 : qSt) (x : Int32), pre ++ cs = ordL (soon Y) (Y 1 0) → (∀ x ∈ pre, lnof Q x = none) → p_ok Y Q → lout cs Q = lo Y P → RW1 S1 i Q → fr (Fm i) S S1 → x = oI ((ordL (soon Y) (Y 1 0)).find? (fun c => (lnof Q c).isSome)) → AT 1 [some (.inr (.inr (40, 0))), some (.inr (.inr (65, i))), some (.inl x)] [] S1 := by
    intro cs
    induction cs with
    | nil =>
      intro pre Q S1 x hc h1 hQ hlo hR1 hf1 hx
      have hn : (ordL (soon Y) (Y 1 0)).find? (fun c => (lnof Q c).isSome) = none := by
        rw [← hc, List.append_nil, List.find?_eq_none]
        intro y hy
        rw [h1 y hy]
        decide
      rw [hn] at hx
      subst hx
      refine step 40 [(1, [true, true, true])] 1 _ _ _ ?_
      simp only [q_vcs, q_vcc, q_vl, q_vu, ↓reduceIte, Nat.reduceEqDiff, Bool.false_eq_true, q_isc, q_mk, q_msk, zbX11_leaveAll, q_pad, q_ent, q_get, q_put, q_nl, q_w, List.cons_append, List.nil_append, q_aks, q_als, Nat.reduceAdd, Nat.reduceLeDiff, Nat.zero_le, true_and, and_true, Option.some.injEq, Sum.inl.injEq, Sum.inr.injEq, true_or, or_true, and_self, q_sw]
      have hlo : Q = lo Y P := hlo
      refine ⟨fun _ => ?_, fun h => absurd rfl h⟩
      rw [← hlo]
      exact ⟨hR1, hQ, hf1⟩
    | cons c cs ih =>
      intro pre Q S1 x hc h1 hQ hlo hR1 hf1 hx
      have hcm : c ∈ ordL (soon Y) (Y 1 0) := by rw [← hc]; simp
      have hcY : c < Y 1 0 := (ord_mem (soon_ok Y)).mp hcm
      have hc' : (pre ++ [c]) ++ cs = ordL (soon Y) (Y 1 0) := by rw [← hc]; simp
      have hM1 := my hf1
      unfold lout at hlo
      cases hl : lnof Q c with
      | none =>
        rw [hl] at hlo
        refine ih (pre ++ [c]) Q S1 x hc' (fun y hy => ?_) hQ hlo hR1 hf1 hx
        rcases List.mem_append.mp hy with q | q
        · exact h1 y q
        · simp only [List.mem_cons, List.not_mem_nil, or_false] at q
          rw [q]; exact hl
      | some k =>
        rw [hl] at hlo
        dsimp only at hlo
        obtain ⟨hk3, hkm⟩ := lnof_lt hl
        have hxc : x = nI c := by
          rw [hx, ← hc, find_app (fun y hy => by rw [h1 y hy]; rfl), List.find?_cons, hl]
          rfl
        subst hxc
        refine step 40 [(1, [true, true, true])] 1 _ _ _ ?_
        simp only [q_vcs, q_vcc, q_vl, q_vu, ↓reduceIte, Nat.reduceEqDiff, Bool.false_eq_true, q_isc, q_mk, q_msk, zbX11_leaveAll, q_pad, q_ent, q_get, q_put, q_nl, q_w, List.cons_append, List.nil_append, q_aks, q_als, Nat.reduceAdd, Nat.reduceLeDiff, Nat.zero_le, true_and, and_true, Option.some.injEq, Sum.inl.injEq, Sum.inr.injEq, true_or, or_true, and_self, q_sw]
        refine ⟨fun h => absurd h (i_ne1 (by omega)), fun _ => ?_⟩
        have hlane := c_mlaneOf l S1 hY hM1 hQ hR1 (c := c) (by omega)
        rw [hl] at hlane
        refine q_u1 (by decide) hlane ?_
        refine q_u1 (by decide) (c_mfrontOf l S1 hQ.1 hR1 (j := k) hk3) ?_
        have hoi := oI_eq (a := (Q k).head?) (b := some c) (hd_lt (st_row hQ.1 hk3)) (fun d hd => by cases hd; omega)
        rw [show nI c = oI (some c) from rfl, hoi]
        refine ⟨fun h => ?_, fun h => ?_⟩
        · rw [if_neg h] at hlo
          rw [← hlo]
          exact ⟨hR1, hQ, hf1⟩
        · rw [if_pos h] at hlo
          have hne := head_ne h
          have hlen : 0 < (Q k).length := by
            cases hr : Q k with
            | nil => exact absurd hr hne
            | cons _ _ => simp
          have h6k := (st_row hQ.1 hk3).1
          refine q_u1 (by decide) hlane ?_
          rw [show oI (some k) = nI k from rfl, i_0, i_cl (by omega), (hR1 k hk3).1]
          have e : nI (Q k).length - 1 = nI ((Q k).length - 1) := by
            have := i_m1 ((Q k).length - 1)
            rwa [Nat.sub_add_cancel hlen] at this
          rw [e]
          refine ⟨i_in (by omega) (by decide), i_in (by omega) (by decide), ?_⟩
          have hR2 := rw1_out hQ.1 hR1 hk3 hne
          have hf2 : fr (Fm i) S (q_wI S1 65 i k (nI ((Q k).length - 1))) := fr.wI hf1 ⟨rfl, rfl⟩
          have hQ2 := p_out hQ k hk3
          refine q_u1 (by decide) (c_mearliest l _ hY (my hf2) hQ2 hR2) ?_
          refine ih (pre ++ [c]) _ _ _ hc' (fun y hy => ?_) hQ2 hlo hR2 hf2 rfl
          rcases List.mem_append.mp hy with q | q
          · have hn := h1 y q
            have := lnof_none hn
            unfold lnof sp
            rw [if_neg, if_neg, if_neg]
            · intro q2; split at q2
              · rename_i e; rw [← e] at q2; exact this.2.2 (List.mem_of_mem_tail q2)
              · exact this.2.2 q2
            · intro q2; split at q2
              · rename_i e; rw [← e] at q2; exact this.2.1 (List.mem_of_mem_tail q2)
              · exact this.2.1 q2
            · intro q2; split at q2
              · rename_i e; rw [← e] at q2; exact this.1 (List.mem_of_mem_tail q2)
              · exact this.1 q2
          · simp only [List.mem_cons, List.not_mem_nil, or_false] at q
            rw [q]
            exact p_outf hQ hk3 h
  refine step 40 [(1, [true, true, true])] 0 _ _ _ ?_
  simp only [q_vcs, q_vcc, q_vl, q_vu, ↓reduceIte, Nat.reduceEqDiff, Bool.false_eq_true, q_isc, q_mk, q_msk, zbX11_leaveAll, q_pad, q_ent, q_get, q_put, q_nl, q_w, List.cons_append, List.nil_append, q_aks, q_als, Nat.reduceAdd, Nat.reduceLeDiff, Nat.zero_le, true_and, and_true, Option.some.injEq, Sum.inl.injEq, Sum.inr.injEq, true_or, or_true, and_self, q_sw]
  refine q_u1 (by decide) (c_mearliest l S hY hM hP hR) ?_
  exact hL (ordL (soon Y) (Y 1 0)) [] P S _ rfl (fun x h => by cases h) hP rfl hR fr.rf rfl
