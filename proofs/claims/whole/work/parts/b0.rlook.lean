/-! The reference's question: look -/
theorem bpn_sk {Y : YD} {P : Nat → List Nat} {ln oi n : Nat} (h : plc Y (n / 4) ≤ n % 4) : bpn Y P ln oi (n + 1) = bpn Y P ln oi n := by
  rw [bpn, if_neg (fun z => by have := z.1; omega)]
theorem bpn_row {Y : YD} {P : Nat → List Nat} {ln oi i j : Nat} (hj : plc Y i ≤ j) (hj4 : j ≤ 4) : bpn Y P ln oi (4 * (i + 1)) = bpn Y P ln oi (4 * i + j) := by
  have key : ∀ r j, j + r = 4 → plc Y i ≤ j → bpn Y P ln oi (4 * (i + 1)) = bpn Y P ln oi (4 * i + j) := by
    intro r
    induction r with
    | zero => intro j hj _; rw [show 4 * (i + 1) = 4 * i + j by omega]
    | succ r ih =>
      intro j hj hp
      rw [ih (j + 1) (by omega) (by omega), ← Nat.add_assoc]
      exact bpn_sk (by rw [show (4 * i + j) / 4 = i by omega, show (4 * i + j) % 4 = j by omega]; exact hp)
  exact key (4 - j) j (by omega) hj
theorem bpn_end {Y : YD} {P : Nat → List Nat} {ln oi : Nat} (h3 : Y 0 0 ≤ 3) : bpn Y P ln oi 12 = bpn Y P ln oi (4 * Y 0 0) := by
  have key : ∀ r i, i + r = 3 → Y 0 0 ≤ i → bpn Y P ln oi 12 = bpn Y P ln oi (4 * i) := by
    intro r
    induction r with
    | zero => intro i hi _; rw [show 4 * i = 12 by omega]
    | succ r ih =>
      intro i hi hY
      rw [ih (i + 1) (by omega) (by omega)]
      exact bpn_row (j := 0) (by unfold plc; rw [if_neg (by omega)]; exact Nat.le_refl _) (by decide)
  exact key (3 - Y 0 0) (Y 0 0) (by omega) (Nat.le_refl _)
theorem bpn_v {Y : YD} {P : Nat → List Nat} {ln oi : Nat} : ∀ n b, (bpn Y P ln oi n).1 = some b → (bpn Y P ln oi n).2 = wrst Y P ln oi b
  | 0, b, h => by cases h
  | n + 1, b, h => by
    rw [bpn] at h ⊢
    split at h
    · rename_i hc
      rw [if_pos hc]
      cases hb : bpn Y P ln oi n with
      | mk o v =>
        rw [hb] at h
        cases o with
        | none => cases h; rfl
        | some b' =>
          dsimp only at h ⊢
          split at h
          · rename_i hlt
            cases h
            rw [if_pos hlt]
          · rename_i hlt
            cases h
            rw [if_neg hlt]
            have := bpn_v n b (by rw [hb])
            rw [hb] at this
            exact this
    · rename_i hc
      rw [if_neg hc]
      exact bpn_v n b h
def lkC (s : Option Nat × Nat) : Int32 := match s.1 with
  | none => -1
  | some p => nI (p / 4 * 10 + p % 4)
def lkW (s : Option Nat × Nat) : Int32 := match s.1 with
  | none => -1
  | some _ => nI s.2
theorem r_look (l : Launch) {S : qSt} {a : AS} {B : Nat} (hR : RF S a) (hO : OKA a B) (y : Int32) : RA l k_X11_look [.inr (.inr (40, 0)), .inl y] S (sp_look a y) := by
  unfold sp_look
  by_cases h2 : 0 ≤ y ∧ y ≤ 1
  · rw [spI_2 h2]
    obtain ⟨n, hn, rfl⟩ := i_rng (m := 1) (by decide) h2.1 h2.2
    rw [i_cl (by omega)]
    have hR0 := hR.th (v := 0)
    have gv := hO.v
    have hM := hR0.1
    have hV := hR0.2.2.2.1.2.1
    have h3 := hO.1.1
    have h6 := hO.1.2.1
    refine RA_s (d := 20) (by decide) hR ?_
    refine q_meth zoX11_look q_fos (Nat.le_of_ble_eq_true rfl) ?_
    intro AT step
    obtain ⟨ms, ws, os, q1, q2, q3⟩ := hR0.2.2.1
    have hp : (2 : Nat) ^ aY a 1 0 ≤ 2 ^ 6 := Nat.pow_le_pow_right (by decide) h6
    have ht0 : q_I (q_wI S 40 0 0 0) 44 0 (Int32.toNatClampNeg 0) = nI (aY a 0 0) := hM.1
    have ht1 : q_I (q_wI S 40 0 0 0) 44 0 (Int32.toNatClampNeg 1) = nI (aY a 1 0) := hM.2.1
    have hsh := i_1sh (aY a 1 0) (by omega)
    have hcl : ∀ (p : Nat → Bool) i, fa_cnt p i ≤ i := by
      intro p i
      induction i with
      | zero => exact Nat.le_refl _
      | succ i ih => rw [fa_cnt]; split <;> omega
    have k7 : ∀ p i j, p = 4 * i + j → i < aY a 0 0 → j < plc (aY a) i → j < 4 → (aLn a).testBit p = false → AT 5 [some (.inr (.inr (40, 0))), some (.inl (nI n)), some (.inl (lkC (bpn (aY a) (aV a).1 (aLn a) (aOi a) (p + 1)))), some (.inl (lkW (bpn (aY a) (aV a).1 (aLn a) (aOi a) (p + 1)))), some (.inl (nI i)), some (.inl (nI (j + 1))), none, none, none] [] (q_wI S 40 0 0 0) → ∀ r s, s + r = 2 ^ aY a 1 0 → AT 7 [some (.inr (.inr (40, 0))), some (.inl (nI n)), some (.inl (lkC (bpn (aY a) (aV a).1 (aLn a) (aOi a) p))), some (.inl (lkW (bpn (aY a) (aV a).1 (aLn a) (aOi a) p))), some (.inl (nI i)), some (.inl (nI j)), some (.inl (nI (fa_cnt (fun s => (isR (aY a) (aV a).1 (aLn a) (aOi a) s && lk (sto (aY a) (aV a).1 p) s)) s))), some (.inl (nI (fa_cnt (fun s => (isR (aY a) (aV a).1 (aLn a) (aOi a) s && !lk (sto (aY a) (aV a).1 p) s)) s))), some (.inl (nI s))] [] (q_wI S 40 0 0 0) := by
      intro p i j hp9 hi hj hj4 hun hK r
      induction r with
      | zero =>
        intro s hs
        have hs : s = 2 ^ aY a 1 0 := by omega
        subst hs
        have c1 := hcl (fun s => (isR (aY a) (aV a).1 (aLn a) (aOi a) s && lk (sto (aY a) (aV a).1 p) s)) (2 ^ aY a 1 0)
        have c2 := hcl (fun s => (isR (aY a) (aV a).1 (aLn a) (aOi a) s && !lk (sto (aY a) (aV a).1 p) s)) (2 ^ aY a 1 0)
        have ew : wrst (aY a) (aV a).1 (aLn a) (aOi a) p = max (fa_cnt (fun s => (isR (aY a) (aV a).1 (aLn a) (aOi a) s && lk (sto (aY a) (aV a).1 p) s)) (2 ^ aY a 1 0)) (fa_cnt (fun s => (isR (aY a) (aV a).1 (aLn a) (aOi a) s && !lk (sto (aY a) (aV a).1 p) s)) (2 ^ aY a 1 0)) := rfl
        have hwl := wrst_le (aY a) (aV a).1 (aLn a) (aOi a) p
        rw [bpn, if_pos ⟨by rw [hp9, show (4 * i + j) % 4 = j by omega, show (4 * i + j) / 4 = i by omega]; exact hj, hun⟩] at hK
        refine step 40 [(3, [true, true, true, true, true, true, true, true, true]), (4, [true, true, true, true, true, false, false, false, false]), (5, [true, true, true, true, true, true, false, false, false]), (7, [true, true, true, true, true, true, true, true, true])] 7 _ _ _ ?_
        simp only [q_vcs, q_vcc, q_vl, q_vu, ↓reduceIte, Nat.reduceEqDiff, Bool.false_eq_true, q_isc, q_mk, q_msk, zbX11_look, q_pad, q_ent, q_get, q_put, q_nl, q_w, List.cons_append, List.nil_append, q_aks, q_als, Nat.reduceAdd, Nat.reduceLeDiff, Nat.zero_le, true_and, and_true, Option.some.injEq, Sum.inl.injEq, Sum.inr.injEq, true_or, or_true, and_self, q_sw]
        rw [ht1, hsh, nI_leI (by omega) (by omega)]
        refine ⟨i_in (k := 1) (by decide) (by decide), fun _ => ?_, fun q => absurd (Nat.le_refl _) q⟩
        refine q_u1 (by decide) (c_mmore l _ _ _) ?_
        rw [i_maxM (by omega) (by omega), ← ew, show (10 : Int32) = nI 10 from rfl, pk_mul, nI_add, nI_1]
        have hb2 := (bpn_lt (aY a) (aV a).1 (aLn a) (aOi a) p)
        cases hb : bpn (aY a) (aV a).1 (aLn a) (aOi a) p with
        | mk o v =>
          rw [hb] at hK hb2
          have ec : nI (10 * i + j) = nI (p / 4 * 10 + p % 4) := by rw [hp9, show (4 * i + j) % 4 = j by omega, show (4 * i + j) / 4 = i by omega, Nat.mul_comm]
          cases o with
          | none =>
            refine ⟨fun _ => ?_, fun q => absurd rfl q⟩
            rw [ec]
            exact hK
          | some b =>
            have hbb := hb2.1 b rfl
            have hvv := hb2.2
            dsimp only at hK hvv
            refine ⟨fun q => absurd q (i_ne1 (n := b / 4 * 10 + b % 4) (by omega)), fun _ => ?_⟩
            rw [show lkW (some b, v) = nI v from rfl, nI_ltI (by omega) (by omega)]
            refine ⟨fun q => ?_, fun q => ?_⟩
            · rw [if_pos q] at hK
              rw [ec]
              exact hK
            · rw [if_neg q] at hK
              exact hK
      | succ r ih =>
        intro s hs
        have ih := ih (s + 1) (by omega)
        rw [fa_cnt, fa_cnt] at ih
        refine step 40 [(3, [true, true, true, true, true, true, true, true, true]), (4, [true, true, true, true, true, false, false, false, false]), (5, [true, true, true, true, true, true, false, false, false]), (7, [true, true, true, true, true, true, true, true, true])] 7 _ _ _ ?_
        simp only [q_vcs, q_vcc, q_vl, q_vu, ↓reduceIte, Nat.reduceEqDiff, Bool.false_eq_true, q_isc, q_mk, q_msk, zbX11_look, q_pad, q_ent, q_get, q_put, q_nl, q_w, List.cons_append, List.nil_append, q_aks, q_als, Nat.reduceAdd, Nat.reduceLeDiff, Nat.zero_le, true_and, and_true, Option.some.injEq, Sum.inl.injEq, Sum.inr.injEq, true_or, or_true, and_self, q_sw]
        rw [ht1, hsh, nI_leI (by omega) (by omega), nI_1, nI_1, nI_1]
        refine ⟨i_in (k := 1) (by decide) (by decide), fun q => absurd q (by omega), fun _ => ?_⟩
        refine q_u1 (by decide) (c_misLeak l _ (set := s) hO.1 hM gv.1 hV.1 q1 (by omega)) ?_
        rw [ilk_isR q2]
        cases hb : isR (aY a) (aV a).1 (aLn a) (aOi a) s with
        | false =>
          rw [hb] at ih
          exact ⟨fun q => absurd rfl q, fun _ => ih⟩
        | true =>
          rw [hb] at ih
          refine ⟨fun _ => ?_, fun q => absurd q (by decide)⟩
          refine q_u1 (by decide) (c_misOil l _ hO.1 hM gv.1 hV.1 (show i < 3 by omega) (nI j) (set := s) (by omega)) ?_
          have es : onp (aY a) (aV a).1 i (nI j).toInt = sto (aY a) (aV a).1 p := by
            unfold sto
            rw [hp9, show (4 * i + j) % 4 = j by omega, show (4 * i + j) / 4 = i by omega, nI_toInt (by omega)]
          rw [es]
          cases hl9 : lk (sto (aY a) (aV a).1 p) s with
          | false =>
            rw [hl9] at ih
            exact ⟨fun _ => ih, fun q => absurd rfl q⟩
          | true =>
            rw [hl9] at ih
            try rw [nI_1]
            exact ⟨fun q => absurd q (by decide), fun _ => ih⟩
    have k5 : ∀ i, i < aY a 0 0 → AT 4 [some (.inr (.inr (40, 0))), some (.inl (nI n)), some (.inl (lkC (bpn (aY a) (aV a).1 (aLn a) (aOi a) (4 * (i + 1))))), some (.inl (lkW (bpn (aY a) (aV a).1 (aLn a) (aOi a) (4 * (i + 1))))), some (.inl (nI (i + 1))), none, none, none, none] [] (q_wI S 40 0 0 0) → ∀ r j, j + r = plc (aY a) i → AT 5 [some (.inr (.inr (40, 0))), some (.inl (nI n)), some (.inl (lkC (bpn (aY a) (aV a).1 (aLn a) (aOi a) (4 * i + j)))), some (.inl (lkW (bpn (aY a) (aV a).1 (aLn a) (aOi a) (4 * i + j)))), some (.inl (nI i)), some (.inl (nI j)), none, none, none] [] (q_wI S 40 0 0 0) := by
      intro i hi hK r
      have hpl : plc (aY a) i ≤ 4 := plc_le hO.1 i
      have hpv : q_I (q_wI S 40 0 0 0) 46 0 i = nI (plc (aY a) i) := by unfold plc; rw [if_pos hi]; exact hM.2.2.2.1 i hi
      induction r with
      | zero =>
        intro j hj
        rw [bpn_row (j := j) (by omega) (by omega)] at hK
        refine step 40 [(3, [true, true, true, true, true, true, true, true, true]), (4, [true, true, true, true, true, false, false, false, false]), (5, [true, true, true, true, true, true, false, false, false]), (7, [true, true, true, true, true, true, true, true, true])] 5 _ _ _ ?_
        simp only [q_vcs, q_vcc, q_vl, q_vu, ↓reduceIte, Nat.reduceEqDiff, Bool.false_eq_true, q_isc, q_mk, q_msk, zbX11_look, q_pad, q_ent, q_get, q_put, q_nl, q_w, List.cons_append, List.nil_append, q_aks, q_als, Nat.reduceAdd, Nat.reduceLeDiff, Nat.zero_le, true_and, and_true, Option.some.injEq, Sum.inl.injEq, Sum.inr.injEq, true_or, or_true, and_self, q_sw]
        rw [i_cl (by omega), hpv, nI_leI (by omega) (by omega), nI_1]
        exact ⟨i_in (by omega) (by decide), fun _ => hK, fun q => absurd (by omega) q⟩
      | succ r ih =>
        intro j hj
        have ih := ih (j + 1) (by omega)
        have k70 := fun hun => k7 (4 * i + j) i j rfl hi (by omega) (by omega) hun ih (2 ^ aY a 1 0) 0 (by omega)
        refine step 40 [(3, [true, true, true, true, true, true, true, true, true]), (4, [true, true, true, true, true, false, false, false, false]), (5, [true, true, true, true, true, true, false, false, false]), (7, [true, true, true, true, true, true, true, true, true])] 5 _ _ _ ?_
        simp only [q_vcs, q_vcc, q_vl, q_vu, ↓reduceIte, Nat.reduceEqDiff, Bool.false_eq_true, q_isc, q_mk, q_msk, zbX11_look, q_pad, q_ent, q_get, q_put, q_nl, q_w, List.cons_append, List.nil_append, q_aks, q_als, Nat.reduceAdd, Nat.reduceLeDiff, Nat.zero_le, true_and, and_true, Option.some.injEq, Sum.inl.injEq, Sum.inr.injEq, true_or, or_true, and_self, q_sw]
        rw [i_cl (by omega), hpv, nI_leI (by omega) (by omega), nI_1]
        refine ⟨i_in (by omega) (by decide), fun q => absurd q (by omega), fun _ => ?_⟩
        have hT := c_misTold l (q_wI S 40 0 0 0) (i := 4 * i + j) q1 (by omega)
        rw [show (4 * i + j) % 4 = j by omega, show (4 * i + j) / 4 = i by omega] at hT
        refine q_u1 (by decide) hT ?_
        rw [itd_ln q2 (show 4 * i + j < 12 by omega)]
        cases hb : (aLn a).testBit (4 * i + j) with
        | false => exact ⟨fun _ => k70 hb, fun q => absurd rfl q⟩
        | true =>
          rw [← Nat.add_assoc, bpn, if_neg (fun z => by rw [hb] at z; cases z.2)] at ih
          try rw [nI_1]
          exact ⟨fun q => absurd q (by decide), fun _ => ih⟩
    have k4 : ∀ r i, i + r = aY a 0 0 → AT 4 [some (.inr (.inr (40, 0))), some (.inl (nI n)), some (.inl (lkC (bpn (aY a) (aV a).1 (aLn a) (aOi a) (4 * i)))), some (.inl (lkW (bpn (aY a) (aV a).1 (aLn a) (aOi a) (4 * i)))), some (.inl (nI i)), none, none, none, none] [] (q_wI S 40 0 0 0) := by
      intro r
      induction r with
      | zero =>
        intro i hi
        have hi : i = aY a 0 0 := by omega
        subst hi
        refine step 40 [(3, [true, true, true, true, true, true, true, true, true]), (4, [true, true, true, true, true, false, false, false, false]), (5, [true, true, true, true, true, true, false, false, false]), (7, [true, true, true, true, true, true, true, true, true])] 4 _ _ _ ?_
        simp only [q_vcs, q_vcc, q_vl, q_vu, ↓reduceIte, Nat.reduceEqDiff, Bool.false_eq_true, q_isc, q_mk, q_msk, zbX11_look, q_pad, q_ent, q_get, q_put, q_nl, q_w, List.cons_append, List.nil_append, q_aks, q_als, Nat.reduceAdd, Nat.reduceLeDiff, Nat.zero_le, true_and, and_true, Option.some.injEq, Sum.inl.injEq, Sum.inr.injEq, true_or, or_true, and_self, q_sw]
        rw [ht0, nI_leI (by omega) (by omega), nI_z (n := n) (by omega)]
        refine ⟨i_in (k := 0) (by decide) (by decide), fun _ => ?_, fun q => absurd (Nat.le_refl _) q⟩
        unfold loV lkC lkW
        rw [bpn_end hO.1.1]
        cases hb : (bpn (aY a) (aV a).1 (aLn a) (aOi a) (4 * aY a 0 0)).1 with
        | none => exact ⟨fun _ => rfl, fun _ => rfl⟩
        | some p =>
          refine ⟨fun e => ?_, fun e => ?_⟩
          · dsimp only; rw [if_neg e, bpn_v _ p hb]
          · dsimp only; rw [if_pos e]
      | succ r ih =>
        intro i hi
        have k50 := k5 i (by omega) (ih (i + 1) (by omega)) (plc (aY a) i) 0 (by omega)
        refine step 40 [(3, [true, true, true, true, true, true, true, true, true]), (4, [true, true, true, true, true, false, false, false, false]), (5, [true, true, true, true, true, true, false, false, false]), (7, [true, true, true, true, true, true, true, true, true])] 4 _ _ _ ?_
        simp only [q_vcs, q_vcc, q_vl, q_vu, ↓reduceIte, Nat.reduceEqDiff, Bool.false_eq_true, q_isc, q_mk, q_msk, zbX11_look, q_pad, q_ent, q_get, q_put, q_nl, q_w, List.cons_append, List.nil_append, q_aks, q_als, Nat.reduceAdd, Nat.reduceLeDiff, Nat.zero_le, true_and, and_true, Option.some.injEq, Sum.inl.injEq, Sum.inr.injEq, true_or, or_true, and_self, q_sw]
        rw [ht0, nI_leI (by omega) (by omega)]
        exact ⟨i_in (k := 0) (by decide) (by decide), fun q => absurd q (by omega), fun _ => k50⟩
    have kc : AT 3 [some (.inr (.inr (40, 0))), some (.inl (nI n)), none, none, none, none, none, none, none] [] (q_wI S 40 0 0 0) := by
      refine step 40 [(3, [true, true, true, true, true, true, true, true, true]), (4, [true, true, true, true, true, false, false, false, false]), (5, [true, true, true, true, true, true, false, false, false]), (7, [true, true, true, true, true, true, true, true, true])] 3 _ _ _ ?_
      simp only [q_vcs, q_vcc, q_vl, q_vu, ↓reduceIte, Nat.reduceEqDiff, Bool.false_eq_true, q_isc, q_mk, q_msk, zbX11_look, q_pad, q_ent, q_get, q_put, q_nl, q_w, List.cons_append, List.nil_append, q_aks, q_als, Nat.reduceAdd, Nat.reduceLeDiff, Nat.zero_le, true_and, and_true, Option.some.injEq, Sum.inl.injEq, Sum.inr.injEq, true_or, or_true, and_self, q_sw]
      exact k4 (aY a 0 0) 0 (by omega)
    refine step 40 [(3, [true, true, true, true, true, true, true, true, true])] 0 _ _ _ ?_
    simp only [q_vcs, q_vcc, q_vl, q_vu, ↓reduceIte, Nat.reduceEqDiff, Bool.false_eq_true, q_isc, q_mk, q_msk, zbX11_look, q_pad, q_ent, q_get, q_put, q_nl, q_w, List.cons_append, List.nil_append, q_aks, q_als, Nat.reduceAdd, Nat.reduceLeDiff, Nat.zero_le, true_and, and_true, Option.some.injEq, Sum.inl.injEq, Sum.inr.injEq, true_or, or_true, and_self, q_sw]
    refine q_u1 (by decide) (c_min l _ (nI n) 0 1) ?_
    rw [decide_eq_true h2]
    first | refine ⟨fun _ => ?_, fun q => absurd q (by decide)⟩ | refine ⟨fun q => absurd q (by decide), fun _ => ?_⟩
    refine q_u1 (by decide) (c_mbN l S (w := 1) (r := 1) (by decide) (by decide)) ?_
    first | refine ⟨fun _ => ?_, fun q => absurd q (by decide)⟩ | refine ⟨fun q => absurd q (by decide), fun _ => ?_⟩
    exact kc
  · rw [spI_1 h2]
    refine RA_i (d := 20) (by decide) hR ?_
    refine q_meth zoX11_look q_fos (Nat.le_of_ble_eq_true rfl) ?_
    intro AT step
    refine step 40 [(3, [true, true, true, true, true, true, true, true, true])] 0 _ _ _ ?_
    simp only [q_vcs, q_vcc, q_vl, q_vu, ↓reduceIte, Nat.reduceEqDiff, Bool.false_eq_true, q_isc, q_mk, q_msk, zbX11_look, q_pad, q_ent, q_get, q_put, q_nl, q_w, List.cons_append, List.nil_append, q_aks, q_als, Nat.reduceAdd, Nat.reduceLeDiff, Nat.zero_le, true_and, and_true, Option.some.injEq, Sum.inl.injEq, Sum.inr.injEq, true_or, or_true, and_self, q_sw]
    refine q_u1 (by decide) (c_min l _ y 0 1) ?_
    rw [decide_eq_false (fun z => h2 z)]
    first | refine ⟨fun _ => ?_, fun q => absurd q (by decide)⟩ | refine ⟨fun q => absurd q (by decide), fun _ => ?_⟩
    refine q_u1 (by decide) (c_mbY l S (w := 1) (r := 1) (by decide) (by decide)) ?_
    first | refine ⟨fun _ => ?_, fun q => absurd q (by decide)⟩ | refine ⟨fun q => absurd q (by decide), fun _ => ?_⟩
    first | rfl | exact ⟨rfl, rfl⟩ | trivial
