/-! The class's questions, one by one -/
theorem CA_r {l : Launch} {k : Nat} {as : List qV} {S : qSt} {t : Nat} {nm : Nat → String} {v : Int32} {a' : AS} {d : Nat} (hd : d ≤ 60) (h : q_Met q_mt l d k 1 as S (fun x S' => x = some (.inl v) ∧ (∃ t', t' ≤ t + 25 ∧ CL S' t' a') ∧ fr Fcl S S')) : CA l k as S t nm (.inr v, a') := ⟨d, hd, h⟩
theorem CA_x {l : Launch} {k : Nat} {as : List qV} {S : qSt} {t : Nat} {nm : Nat → String} {c : Nat} {a' : AS} {d : Nat} (hd : d ≤ 60) (h : q_Thr q_mt l d k 1 as S (fun E S' => E = nm c ∧ CL S' t a' ∧ fr Fcl S S')) : CA l k as S t nm (.inl c, a') := ⟨d, hd, h⟩
theorem CA_s {l : Launch} {k : Nat} {as : List qV} {S : qSt} {t : Nat} {nm : Nat → String} {v : Int32} {a : AS} {d : Nat} (hd : d ≤ 60) (hC : CL S t a) (h : q_Met q_mt l d k 1 as S (fun x S' => x = some (.inl v) ∧ S' = S)) : CA l k as S t nm (.inr v, a) := ⟨d, hd, h.post (fun r S' q => by rw [q.2]; exact ⟨q.1, ⟨t, by omega, hC⟩, fr.rf⟩)⟩
theorem i_rng {x : Int32} {m : Nat} (hm : m < 2 ^ 31) (h0 : 0 ≤ x) (h1 : x ≤ nI m) : ∃ n, n ≤ m ∧ x = nI n := by
  rw [fa_le] at h0 h1
  rw [nI_toInt hm] at h1
  have h0 : 0 ≤ x.toInt := h0
  refine ⟨x.toInt.toNat, by omega, ?_⟩
  apply Int32.toInt_inj.mp
  rw [nI_toInt (by omega)]
  omega
theorem i_rng1 {x : Int32} {m : Nat} (hm : m < 2 ^ 31) (h : 0 ≤ x ∧ x ≤ nI m - 1) : ∃ n, n < m ∧ x = nI n := by
  cases m with
  | zero =>
    obtain ⟨h0, h1⟩ := h
    rw [fa_le] at h0 h1
    have h0 : 0 ≤ x.toInt := h0
    have h1 : x.toInt ≤ -1 := h1
    omega
  | succ m =>
    rw [i_m1] at h
    obtain ⟨n, a, b⟩ := i_rng (by omega) h.1 h.2
    exact ⟨n, by omega, b⟩
theorem i_last {x : Int32} {m : Nat} (hm : m < 2 ^ 31) (h : 0 ≤ x ∧ x ≤ nI m) (hk : ∀ k, k < m → ¬ x = nI k) : x = nI m := by
  obtain ⟨n, a, b⟩ := i_rng hm h.1 h.2
  by_cases e : n = m
  · rw [b, e]
  · exact absurd b (hk n (by omega))
theorem c_need1 (l : Launch) (S : qSt) : q_Met q_mt l 1 k_X10_need 0 [.inr (.inr (0, 0)), .inl (bI true)] S (fun _ S' => S' = S) := c_need l S
def rma (Y : YD) (P : Nat → List Nat) : Nat → Int32
  | 0 => 0
  | n + 1 => rma Y P n + rmI Y P n
theorem c_roomOfAll (l : Launch) (S : qSt) {t : Nat} {a : AS} {B : Nat} (hC : CL S t a) (hO : OKA a B) {P : Nat → List Nat} (hP : st_ok P) : q_Met q_mt l 3 k_X10_roomOfAll 1 [.inr (.inr (0, 0)), .inr (.inl (lN (es P)))] S (fun r S' => r = some (.inl (rma (aY a) P (aY a 0 0))) ∧ S' = S) := by
  have h3 := hO.1.1
  have hY := hC.1.2.2.2.1
  refine q_meth zoX10_roomOfAll q_fos (Nat.le_of_ble_eq_true rfl) ?_
  intro AT step
  have hL : ∀ r k, k + r = aY a 0 0 → AT 1 [some (.inr (.inr (0, 0))), some (.inr (.inl (lN (es P)))), none, some (.inl (rma (aY a) P k)), some (.inl (nI k))] [] S := by
    intro r
    induction r with
    | zero =>
      intro k hk
      refine step 40 [(1, [true, true, true, true, true])] 1 _ _ _ ?_
      simp only [q_vcs, q_vcc, q_vl, q_vu, ↓reduceIte, Nat.reduceEqDiff, Bool.false_eq_true, q_isc, q_mk, q_msk, zbX10_roomOfAll, q_pad, q_ent, q_get, q_put, q_nl, q_w, List.cons_append, List.nil_append, q_aks, q_als, Nat.reduceAdd, Nat.reduceLeDiff, Nat.zero_le, true_and, and_true, Option.some.injEq, Sum.inl.injEq, Sum.inr.injEq, true_or, or_true, and_self, q_sw]
      rw [hY.1, nI_leI (by omega) (by omega)]
      refine ⟨fun _ => ?_, fun h => absurd (by omega) h⟩
      rw [show k = aY a 0 0 by omega]
    | succ r ih =>
      intro k hk
      refine step 40 [(1, [true, true, true, true, true])] 1 _ _ _ ?_
      simp only [q_vcs, q_vcc, q_vl, q_vu, ↓reduceIte, Nat.reduceEqDiff, Bool.false_eq_true, q_isc, q_mk, q_msk, zbX10_roomOfAll, q_pad, q_ent, q_get, q_put, q_nl, q_w, List.cons_append, List.nil_append, q_aks, q_als, Nat.reduceAdd, Nat.reduceLeDiff, Nat.zero_le, true_and, and_true, Option.some.injEq, Sum.inl.injEq, Sum.inr.injEq, true_or, or_true, and_self, q_sw]
      rw [hY.1, nI_leI (by omega) (by omega), nI_1]
      refine ⟨fun h => absurd h (by omega), fun _ => ?_⟩
      refine q_u1 (by decide) (c_roomOf l S hO.1 hY hP (show k < 3 by omega)) ?_
      exact ih (k + 1) (by omega)
  refine step 40 [(1, [true, true, true, true, true])] 0 _ _ _ ?_
  simp only [q_vcs, q_vcc, q_vl, q_vu, ↓reduceIte, Nat.reduceEqDiff, Bool.false_eq_true, q_isc, q_mk, q_msk, zbX10_roomOfAll, q_pad, q_ent, q_get, q_put, q_nl, q_w, List.cons_append, List.nil_append, q_aks, q_als, Nat.reduceAdd, Nat.reduceLeDiff, Nat.zero_le, true_and, and_true, Option.some.injEq, Sum.inl.injEq, Sum.inr.injEq, true_or, or_true, and_self, q_sw]
  exact hL (aY a 0 0) 0 (by omega)
def tdV (a : AS) : Nat → Int32
  | 0 => nI (aY a 0 0)
  | 1 => nI (aY a 1 0)
  | 2 => nI (bs (aV a).1)
  | 3 => nI (aV a).2.1
  | 4 => nI (fb_sm (aV a).2.2 6)
  | 5 => nI (prs (aY a) (aV a).1)
  | 6 => nI (pcn (aLn a))
  | 7 => nI (aRs a)
  | 8 => rma (aY a) (aV a).1 (aY a 0 0)
  | _ => nI (fb_sm (aV a).2.2 6) * nI (aY a 2 0)
def sp_told (a : AS) (x : Int32) : SPR := if 0 ≤ x ∧ x ≤ 9 then (.inr (tdV a x.toNatClampNeg), a) else (.inl 1, aXi a)
theorem a_told (l : Launch) (hl : l.stackTraces = false) {S : qSt} {t : Nat} {a : AS} {B : Nat} (hC : CL S t a) (hO : OKA a B) (x : Int32) : CA l k_X10_told [.inr (.inr (0, 0)), .inl x] S t nmI (sp_told a x) := by
  unfold sp_told
  by_cases h : 0 ≤ x ∧ x ≤ 9
  · rw [if_pos h]
    refine CA_s (d := 5) (by decide) hC ?_
    have hH := hC.2.2.2.1
    have hV := hH.2.2 (aW a) (Nat.le_refl _)
    have hY := hC.1.2.2.2
    have gv := hO.v
    refine q_meth zoX10_told q_fos (Nat.le_of_ble_eq_true rfl) ?_
    intro AT step
    refine step 40 [] 0 _ _ _ ?_
    simp only [q_vcs, q_vcc, q_vl, q_vu, ↓reduceIte, Nat.reduceEqDiff, Bool.false_eq_true, q_isc, q_mk, q_msk, zbX10_told, q_pad, q_ent, q_get, q_put, q_nl, q_w, List.cons_append, List.nil_append, q_aks, q_als, Nat.reduceAdd, Nat.reduceLeDiff, Nat.zero_le, true_and, and_true, Option.some.injEq, Sum.inl.injEq, Sum.inr.injEq, true_or, or_true, and_self, q_sw]
    refine q_u1 (by decide) (c_isWithin l S x 0 9) ?_
    rw [decide_eq_true h]
    refine q_u0 (by decide) (c_need1 l S) ?_
    refine q_u29 (by decide) (c_latest l S hH) ?_
    refine ⟨fun e => ?_, fun e0 => ⟨fun e => ?_, fun e1 => ⟨fun e => ?_, fun e2 => ⟨fun e => ?_, fun e3 => ⟨fun e => ?_, fun e4 => ⟨fun e => ?_, fun e5 => ⟨fun e => ?_, fun e6 => ⟨fun e => ?_, fun e7 => ⟨fun e => ?_, fun e8 => ?_⟩⟩⟩⟩⟩⟩⟩⟩⟩
    · subst e; exact ⟨hY.1.1, rfl⟩
    · subst e; exact ⟨hY.1.2.1, rfl⟩
    · subst e
      rw [hV.1]
      exact q_u1 (by decide) (c_carsIn l S gv.1.1) ⟨rfl, rfl⟩
    · subst e; exact ⟨hV.2.1, rfl⟩
    · subst e; exact q_u1 (by decide) (c_allMoves l S hV) ⟨rfl, rfl⟩
    · subst e
      rw [hV.1]
      exact q_u1 (by decide) (c_pairsOf l S hO.1 hY gv.1) ⟨rfl, rfl⟩
    · subst e
      rw [hC.2.2.1.2.2.2.1]
      exact q_u1 (by decide) (c_bitCount l S hC.2.2.1.2.2.2.2.2.1) ⟨rfl, rfl⟩
    · subst e; exact ⟨hC.2.2.2.2.2.2.2.1.1, rfl⟩
    · subst e
      rw [hV.1]
      exact q_u1 (by decide) (c_roomOfAll l S hC hO gv.1.1) ⟨rfl, rfl⟩
    · have hx : x = nI 9 := i_last (by decide) h (fun k hk => by
        match k, hk with
        | 0, _ => exact e0
        | 1, _ => exact e1
        | 2, _ => exact e2
        | 3, _ => exact e3
        | 4, _ => exact e4
        | 5, _ => exact e5
        | 6, _ => exact e6
        | 7, _ => exact e7
        | 8, _ => exact e8)
      subst hx
      refine q_u1 (by decide) (c_allMoves l S hV) ?_
      rw [hY.1.2.2.1]
      exact ⟨rfl, rfl⟩
  · rw [if_neg h]
    refine CA_x (d := 7) (by decide) ?_
    refine q_methC zoX10_told (Nat.le_of_ble_eq_true rfl) ?_
    intro AT step hX
    refine step 40 [(1, [true, true, true])] 0 _ _ _ ?_
    simp only [q_vcs, q_vcc, q_vl, q_vu, ↓reduceIte, Nat.reduceEqDiff, Bool.false_eq_true, q_isc, q_mk, q_msk, zbX10_told, q_pad, q_ent, q_get, q_put, q_nl, q_w, List.cons_append, List.nil_append, q_aks, q_als, Nat.reduceAdd, Nat.reduceLeDiff, Nat.zero_le, true_and, and_true, Option.some.injEq, Sum.inl.injEq, Sum.inr.injEq, true_or, or_true, and_self, q_sw]
    refine q_u1 (by decide) (c_isWithin l S x 0 9) ?_
    rw [decide_eq_false h]
    exact hX 1 _ _ _ ⟨_, _, _, _, _, _, _, _, _, _, _, _, _, zbX10_told.2.1, rfl, by decide, by decide, by decide, c_needX l hl hC nmI 1 rfl⟩
