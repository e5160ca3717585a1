/-! what stays as it was; Yard.order -/
def fr (F : Nat → Nat → Prop) (S S' : qSt) : Prop := ∀ f i, ¬ F f i → q_I S' f i = q_I S f i ∧ q_L S' f i = q_L S f i ∧ q_M S' f i = q_M S f i
theorem fr.rf {F : Nat → Nat → Prop} {S : qSt} : fr F S S := fun _ _ _ => ⟨rfl, rfl, rfl⟩
theorem fr.tr {F : Nat → Nat → Prop} {S S1 S2 : qSt} (h : fr F S S1) (h2 : fr F S1 S2) : fr F S S2 := fun f i hn => ⟨(h2 f i hn).1.trans (h f i hn).1, (h2 f i hn).2.1.trans (h f i hn).2.1, (h2 f i hn).2.2.trans (h f i hn).2.2⟩
theorem fr.mn {F F' : Nat → Nat → Prop} {S S' : qSt} (h : fr F S S') (hF : ∀ f i, F f i → F' f i) : fr F' S S' := fun f i hn => h f i (fun q => hn (hF f i q))
theorem fr.wI {F : Nat → Nat → Prop} {S S1 : qSt} (h : fr F S S1) {f i j : Nat} {v : Int32} (hF : F f i) : fr F S (q_wI S1 f i j v) := fun g k hn => by
  have hne : ¬ (g = f ∧ k = i) := fun e => hn (by rw [e.1, e.2]; exact hF)
  exact ⟨(q_othI g k hne).trans (h g k hn).1, (h g k hn).2.1, (h g k hn).2.2⟩
theorem fr.wL {F : Nat → Nat → Prop} {S S1 : qSt} (h : fr F S S1) {f i j : Nat} {v : Int64} (hF : F f i) : fr F S (q_wL S1 f i j v) := fun g k hn => by
  have hne : ¬ (g = f ∧ k = i) := fun e => hn (by rw [e.1, e.2]; exact hF)
  exact ⟨(h g k hn).1, (q_othL g k hne).trans (h g k hn).2.1, (h g k hn).2.2⟩
theorem YR.fr {F : Nat → Nat → Prop} {S S' : qSt} {y : Nat} {Y : YD} (h : YR S y Y) (hf : fr F S S') (hF : ∀ f, 3 ≤ f → f ≤ 8 → ¬ F f y) : YR S' y Y := by
  unfold YR at *
  rw [(hf 3 y (hF 3 (by decide) (by decide))).1, (hf 4 y (hF 4 (by decide) (by decide))).1, (hf 5 y (hF 5 (by decide) (by decide))).1, (hf 6 y (hF 6 (by decide) (by decide))).1, (hf 7 y (hF 7 (by decide) (by decide))).1, (hf 8 y (hF 8 (by decide) (by decide))).1]
  exact h
theorem YO.fr {F : Nat → Nat → Prop} {S S' : qSt} {y : Nat} {Y : YD} (h : YO S y Y) (hf : fr F S S') (hF : ∀ f, 3 ≤ f → f ≤ 11 → ¬ F f y) : YO S' y Y := by
  refine ⟨h.1.fr hf (fun f h1 h2 => hF f h1 (by omega)), ?_⟩
  have h2 := h.2
  unfold YOn at *
  rw [(hf 9 y (hF 9 (by decide) (by decide))).1, (hf 10 y (hF 10 (by decide) (by decide))).1, (hf 11 y (hF 11 (by decide) (by decide))).1]
  exact h2
abbrev Ford (y : Nat) : Nat → Nat → Prop := fun f i => i = y ∧ (f = 9 ∨ f = 10 ∨ f = 11)
theorem i_min5 {n : Nat} (h : n ≤ 5) : (if (5 : Int32) < nI n then (5 : Int32) else nI n) = nI n := by
  rw [if_neg]
  rw [show (5 : Int32) = nI 5 from rfl, nI_ltI (by decide) (by omega)]
  omega
theorem rk_le5 {R : Nat → Nat → Bool} (h : so_ok R) {n c : Nat} (hn : n ≤ 6) (hc : c < n) : rk R n c ≤ 5 := by
  have := rk_lt h hc
  omega
theorem i_1sh : ∀ k, k < 31 → (1 : Int32) <<< ((nI k) &&& 31) = nI (2 ^ k) := by decide +kernel
theorem bI_0 (b : Bool) : bI b = 0 ↔ b = false := by cases b <;> decide
set_option maxHeartbeats 1000000 in
theorem c_order (l : Launch) (S : qSt) {y : Nat} {Y : YD} (hY : y_ok Y) (hR : YR S y Y) : q_Met q_mt l 2 k_X9_order 0 [.inr (.inr (3, y))] S (fun _ S' => YO S' y Y ∧ fr (Ford y) S S') := by
  refine q_meth zoX9_order q_fos (Nat.le_of_ble_eq_true rfl) ?_
  intro AT step
  have h6 := hY.2.1
  have hnF : ∀ f, 3 ≤ f → f ≤ 8 → ¬ Ford y f y := fun f h1 h2 h => by have := h.2; omega
  have hL : ∀ (k c : Nat) (S1 : qSt), c + k = Y 1 0 → fr (Ford y) S S1 → YOn S1 y Y c → AT 1 [some (.inr (.inr (3, y))), some (.inl (nI c)), none, none, none] [] S1 := by
    intro k
    induction k with
    | zero =>
      intro c S1 hc hf hO
      have hR1 := hR.fr hf hnF
      refine step 20 [(1, [true, true, false, false, false]), (2, [true, true, true, true, true])] 1 _ _ _ ?_
      simp only [q_vcs, q_vcc, q_vl, q_vu, ↓reduceIte, Nat.reduceEqDiff, Bool.false_eq_true, q_isc, q_mk, q_msk, zbX9_order, q_pad, q_ent, q_get, q_put, q_nl, q_w, List.cons_append, List.nil_append, q_aks, q_als, Nat.reduceAdd, Nat.reduceLeDiff, Nat.zero_le, true_and, and_true, Option.some.injEq, Sum.inl.injEq, Sum.inr.injEq, true_or, or_true, and_self, q_sw]
      rw [hR1.2.1, nI_leI (by omega) (by omega)]
      refine ⟨fun _ => ⟨⟨hR1, ?_⟩, hf⟩, fun h => absurd (by omega) h⟩
      rw [← hc]
      exact hO
    | succ k ih =>
      intro c S1 hc hf hO
      have hR1 := hR.fr hf hnF
      have hI : ∀ (m o : Nat), o + m = Y 1 0 → AT 2 [some (.inr (.inr (3, y))), some (.inl (nI c)), some (.inl (nI (bpr (fun x => soon Y x c) o))), some (.inl (nI (fa_cnt (fun x => homs Y x c) o))), some (.inl (nI o))] [] S1 := by
        intro m
        induction m with
        | zero =>
          intro o ho
          refine step 20 [(1, [true, true, false, false, false]), (2, [true, true, true, true, true])] 2 _ _ _ ?_
          simp only [q_vcs, q_vcc, q_vl, q_vu, ↓reduceIte, Nat.reduceEqDiff, Bool.false_eq_true, q_isc, q_mk, q_msk, zbX9_order, q_pad, q_ent, q_get, q_put, q_nl, q_w, List.cons_append, List.nil_append, q_aks, q_als, Nat.reduceAdd, Nat.reduceLeDiff, Nat.zero_le, true_and, and_true, Option.some.injEq, Sum.inl.injEq, Sum.inr.injEq, true_or, or_true, and_self, q_sw]
          have e : o = Y 1 0 := by omega
          subst e
          rw [hR1.2.1, nI_leI (by omega) (by omega)]
          refine ⟨fun _ => ?_, fun h => absurd (by omega) h⟩
          have r1 := rk_le5 (soon_ok Y) h6 (show c < Y 1 0 by omega)
          have r2 := rk_le5 (homs_ok Y) h6 (show c < Y 1 0 by omega)
          have hs := sob_lt hY c
          refine ⟨i_in (by omega) (by decide), q_u1 (by decide) (c_bitCount l _ (n := bpr (fun x => soon Y x c) (Y 1 0)) (by have : bpr (fun x => soon Y x c) (Y 1 0) < 64 := hs; omega)) ?_⟩
          rw [pcn_bpr _ (by omega)]
          have e1 : fa_cnt (fun x => soon Y x c) (Y 1 0) = rk (soon Y) (Y 1 0) c := rfl
          have e2 : fa_cnt (fun x => homs Y x c) (Y 1 0) = rk (homs Y) (Y 1 0) c := rfl
          rw [e1, e2, i_min5 r1, i_min5 r2, i_cl (by omega), i_cl (by omega), i_cl (by omega), nI_1]
          refine ⟨by decide, i_in (by omega) (by decide), by decide, i_in (by omega) (by decide), ?_⟩
          refine ih (c + 1) _ (by omega) (((hf.wI ⟨rfl, by simp⟩).wI ⟨rfl, by simp⟩).wI ⟨rfl, by simp⟩) ?_
          intro c' hc'
          rcases Nat.lt_or_ge c' c with q | q
          · obtain ⟨o1, o2, o3⟩ := hO c' q
            have n1 : rk (soon Y) (Y 1 0) c' ≠ rk (soon Y) (Y 1 0) c := fun e => by have := rk_inj (soon_ok Y) (by omega) (by omega) e; omega
            have n2 : rk (homs Y) (Y 1 0) c' ≠ rk (homs Y) (Y 1 0) c := fun e => by have := rk_inj (homs_ok Y) (by omega) (by omega) e; omega
            simp [q_I_wI, n1, n2, show c' ≠ c by omega, o1, o2, o3]
          · have : c' = c := by omega
            subst this
            simp [q_I_wI]
            rfl
        | succ m im =>
          intro o ho
          refine step 20 [(1, [true, true, false, false, false]), (2, [true, true, true, true, true])] 2 _ _ _ ?_
          simp only [q_vcs, q_vcc, q_vl, q_vu, ↓reduceIte, Nat.reduceEqDiff, Bool.false_eq_true, q_isc, q_mk, q_msk, zbX9_order, q_pad, q_ent, q_get, q_put, q_nl, q_w, List.cons_append, List.nil_append, q_aks, q_als, Nat.reduceAdd, Nat.reduceLeDiff, Nat.zero_le, true_and, and_true, Option.some.injEq, Sum.inl.injEq, Sum.inr.injEq, true_or, or_true, and_self, q_sw]
          have eo := hR1.2.2.2.2 o (by omega)
          have ec := hR1.2.2.2.2 c (by omega)
          have bo' := hY.2.2.2.2 o (by omega)
          have bc' := hY.2.2.2.2 c (by omega)
          have io : vp_in (nI o) 6 := i_in (by omega) (by decide)
          have ic : vp_in (nI c) 6 := i_in (by omega) (by decide)
          rw [hR1.2.1]
          have key : ∀ (b1 : Nat), b1 = bpr (fun x => soon Y x c) (o + 1) → ∀ h1 : Nat, h1 = fa_cnt (fun x => homs Y x c) (o + 1) → AT 2 [some (.inr (.inr (3, y))), some (.inl (nI c)), some (.inl (nI b1)), some (.inl (nI h1)), some (.inl (nI (o + 1)))] [] S1 := by
            rintro b1 rfl h1 rfl
            exact im (o + 1) (by omega)
          have hb : ∀ v, soon Y o c = v → (if v then bpr (fun x => soon Y x c) o ||| 2 ^ o else bpr (fun x => soon Y x c) o) = bpr (fun x => soon Y x c) (o + 1) := by
            intro v hv
            rw [bpr, hv]
            cases v <;> simp
          have hh : homs Y o c = true → fa_cnt (fun x => homs Y x c) o + 1 = fa_cnt (fun x => homs Y x c) (o + 1) := fun h => (fa_cnt_yes (p := fun x => homs Y x c) h).symm
          have hh0 : homs Y o c = false → fa_cnt (fun x => homs Y x c) o = fa_cnt (fun x => homs Y x c) (o + 1) := fun h => (fa_cnt_no (p := fun x => homs Y x c) h).symm
          have hm1 : (Y 5 c < Y 5 o ∨ Y 5 o = Y 5 c ∧ o < c) → homs Y o c = true := fun h => decide_eq_true h
          have hm0 : ¬ (Y 5 c < Y 5 o ∨ Y 5 o = Y 5 c ∧ o < c) → homs Y o c = false := fun h => decide_eq_false h
          refine ⟨fun h => absurd ((nI_leI (by omega) (by omega)).mp h) (by omega), fun _ => q_u1 (by decide) (c_isSooner l S1 hY hR1 (show o < Y 1 0 by omega) (show c < Y 1 0 by omega)) ?_⟩
          rw [bI_0, i_cl (show o < 2 ^ 31 by omega), i_cl (show c < 2 ^ 31 by omega), eo.2.1, ec.2.1, nI_ltI (by omega) (by omega), nI_eq (by omega) (by omega), nI_leI (by omega) (by omega), nI_1, nI_1, i_1sh _ (by omega), fa_or]
          have fin : ∀ b1 : Nat, b1 = bpr (fun x => soon Y x c) (o + 1) → (vp_in (nI o) 6 ∧ vp_in (nI c) 6 ∧ (Y 5 c < Y 5 o → AT 2 [some (.inr (.inr (3, y))), some (.inl (nI c)), some (.inl (nI b1)), some (.inl (nI (fa_cnt (fun x => homs Y x c) o + 1))), some (.inl (nI (o + 1)))] [] S1) ∧ (¬ Y 5 c < Y 5 o → vp_in (nI o) 6 ∧ vp_in (nI c) 6 ∧ (¬ Y 5 o = Y 5 c → AT 2 [some (.inr (.inr (3, y))), some (.inl (nI c)), some (.inl (nI b1)), some (.inl (nI (fa_cnt (fun x => homs Y x c) o))), some (.inl (nI (o + 1)))] [] S1) ∧ (Y 5 o = Y 5 c → (c ≤ o → AT 2 [some (.inr (.inr (3, y))), some (.inl (nI c)), some (.inl (nI b1)), some (.inl (nI (fa_cnt (fun x => homs Y x c) o))), some (.inl (nI (o + 1)))] [] S1) ∧ (¬ c ≤ o → AT 2 [some (.inr (.inr (3, y))), some (.inl (nI c)), some (.inl (nI b1)), some (.inl (nI (fa_cnt (fun x => homs Y x c) o + 1))), some (.inl (nI (o + 1)))] [] S1)))) := by
            intro b1 hb1
            refine ⟨io, ic, fun h => key _ hb1 _ (hh (hm1 (by omega))), fun h => ⟨io, ic, fun h2 => key _ hb1 _ (hh0 (hm0 (by omega))), fun h2 => ⟨fun h3 => key _ hb1 _ (hh0 (hm0 (by omega))), fun h3 => key _ hb1 _ (hh (hm1 (by omega)))⟩⟩⟩
          exact ⟨fun h => fin _ (hb false h), fun h => fin _ (hb true (by simpa using h))⟩
      refine step 20 [(1, [true, true, false, false, false]), (2, [true, true, true, true, true])] 1 _ _ _ ?_
      simp only [q_vcs, q_vcc, q_vl, q_vu, ↓reduceIte, Nat.reduceEqDiff, Bool.false_eq_true, q_isc, q_mk, q_msk, zbX9_order, q_pad, q_ent, q_get, q_put, q_nl, q_w, List.cons_append, List.nil_append, q_aks, q_als, Nat.reduceAdd, Nat.reduceLeDiff, Nat.zero_le, true_and, and_true, Option.some.injEq, Sum.inl.injEq, Sum.inr.injEq, true_or, or_true, and_self, q_sw]
      rw [hR1.2.1, nI_leI (by omega) (by omega)]
      exact ⟨fun h => absurd h (by omega), fun _ => hI (Y 1 0) 0 (by omega)⟩
  refine step 20 [(1, [true, true, false, false, false]), (2, [true, true, true, true, true])] 0 _ _ _ ?_
  simp only [q_vcs, q_vcc, q_vl, q_vu, ↓reduceIte, Nat.reduceEqDiff, Bool.false_eq_true, q_isc, q_mk, q_msk, zbX9_order, q_pad, q_ent, q_get, q_put, q_nl, q_w, List.cons_append, List.nil_append, q_aks, q_als, Nat.reduceAdd, Nat.reduceLeDiff, Nat.zero_le, true_and, and_true, Option.some.injEq, Sum.inl.injEq, Sum.inr.injEq, true_or, or_true, and_self, q_sw]
  exact hL (Y 1 0) 0 S (by omega) fr.rf (fun c hc => absurd hc (Nat.not_lt_zero c))
