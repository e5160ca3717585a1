/-! the reference: days -/
theorem b_32767 (i : Nat) : bt 32767 i = decide (i < 15) := by
  show (BitVec.ofNat 32 32767).getLsbD i = _
  rw [BitVec.getLsbD_ofNat, show (32767 : Nat) = 2 ^ 15 - 1 by decide, Nat.testBit_two_pow_sub_one]
  by_cases h : i < 15
  · simp [h]; omega
  · simp [h]
theorem i_drvS (x : Int32) : (x >>> ((16 : Int32) &&& 31)) &&& 32767 = nI (drv x) := by
  refine b_ext fun i hi => ?_
  have hs := b_sshr 16 (by omega) x hi
  rw [b_and, b_32767, show (16 : Int32) = nI 16 from rfl, hs, bt_nI]
  have e : drv x = x.toBitVec.toNat / 2 ^ 16 % 2 ^ 15 := rfl
  rw [e, Nat.testBit_mod_two_pow, Nat.testBit_div_two_pow]
  by_cases h : i < 15
  · rw [if_pos (by omega)]
    simp [h, hi]
    unfold bt
    rw [BitVec.getLsbD, Nat.add_comm]
  · simp [h]
theorem c_mdraw (l : Launch) (S : qSt) {n : Nat} (h0 : 0 < n) (hn : n < 2 ^ 31) : q_Met q_mt l 0 k_X11_draw 1 [.inr (.inr (40, 0)), .inl (nI n)] S (fun v S' => v = some (.inl (nI (drv (drw (q_I S 40 0 50)) % n))) ∧ S' = q_wI S 40 0 50 (drw (q_I S 40 0 50))) := by
  refine q_meth zoX11_draw q_fos (Nat.le_of_ble_eq_true rfl) ?_
  intro AT step
  refine step 40 [] 0 _ _ _ ?_
  simp only [q_vcs, q_vcc, q_vl, q_vu, ↓reduceIte, Nat.reduceEqDiff, Bool.false_eq_true, q_isc, q_mk, q_msk, zbX11_draw, q_pad, q_ent, q_get, q_put, q_nl, q_w, List.cons_append, List.nil_append, q_aks, q_als, Nat.reduceAdd, Nat.reduceLeDiff, Nat.zero_le, true_and, and_true, Option.some.injEq, Sum.inl.injEq, Sum.inr.injEq, true_or, or_true, and_self, q_sw]
  rw [q_I_wI, if_pos ⟨rfl, rfl, rfl⟩]
  have := drv_lt (drw (q_I S 40 0 50))
  have e := i_drvS (drw (q_I S 40 0 50))
  unfold drw at e
  rw [e]
  have hh := i_rem (a := drv (drw (q_I S 40 0 50))) (d := n) (by omega) h0 hn
  unfold drw at hh
  exact ⟨nI_ne0 h0 hn, hh, rfl⟩
/-- a day in the reference's store -/
def MDR (S S' : qSt) (s : DV) : Prop := q_I S' 40 0 50 = s.1 ∧ RW1 S' 1 s.2.1 ∧ q_I S' 40 0 51 = nI s.2.2.1 ∧ q_I S' 40 0 52 = nI s.2.2.2 ∧ (∀ j, j < 50 → q_I S' 40 0 j = q_I S 40 0 j) ∧ fr (fun f k => f = 40 ∨ (f = 65 ∧ k = 1)) S S'
theorem oI_dpw {o : Option Nat} {c : Nat} (hc : c < 2 ^ 31) (ho : ∀ x, o = some x → x < 2 ^ 31) : nI c = oI o ↔ some c = o := oI_eq (a := some c) (fun x hx => by cases hx; exact hc) ho
theorem sp_same (P : Nat → List Nat) (k : Nat) (r : List Nat) (s : List Nat) : sp (sp P k r) k s = sp P k s := by
  funext x
  simp only [sp]
  split <;> rfl
set_option maxHeartbeats 2000000 in
theorem c_mdaysBy (l : Launch) (S : qSt) {n q : Nat} {Y : YD} {P : Nat → List Nat} (hY : y_ok Y) (hM : MY S Y) (hP : p_ok Y P) (hR : RW1 S 0 P) (x : Int32) (hq : q ≤ 16) (hn : n < 2 ^ 20) : q_Met q_mt l 4 k_X11_daysBy 0 [.inr (.inr (40, 0)), .inl x, .inl (nI n), .inl (nI q)] S (fun _ S' => MDR S S' (dayn Y q n (x, P, 0, 0))) := by
  have h6 := hY.2.1
  have h3 := hY.1
  have k0 : Int32.toNatClampNeg 0 = 0 := rfl
  have k1 : Int32.toNatClampNeg 1 = 1 := rfl
  have v3 : ∀ k, k < 3 → vp_in (nI k) 3 := fun k hk => i_in hk (by decide)
  have my : ∀ {S1 : qSt}, fr (fun f k => f = 40 ∨ (f = 65 ∧ k = 1)) S S1 → MY S1 Y := fun hf => hM.fr hf (fun _ h => by omega) (fun _ h => by omega) (fun _ h => by omega) (fun _ h => by omega)
  refine q_meth zoX11_daysBy q_fos (Nat.le_of_ble_eq_true rfl) ?_
  intro AT step
  have hL : ∀ (m k : Nat) (S1 : qSt), k + m = n → MDR S S1 (dayn Y q k (x, P, 0, 0)) → AT 1 [some (.inr (.inr (40, 0))), some (.inl x), some (.inl (nI n)), some (.inl (nI q)), some (.inl (nI k)), none, none] [] S1 := by
    intro m
    induction m with
    | zero =>
      intro k S1 hk hD
      refine step 40 [(1, [true, true, true, true, true, false, false]), (6, [true, true, true, true, true, true, true]), (7, [true, true, true, true, true, true, true])] 1 _ _ _ ?_
      simp only [q_vcs, q_vcc, q_vl, q_vu, ↓reduceIte, Nat.reduceEqDiff, Bool.false_eq_true, q_isc, q_mk, q_msk, zbX11_daysBy, q_pad, q_ent, q_get, q_put, q_nl, q_w, List.cons_append, List.nil_append, q_aks, q_als, Nat.reduceAdd, Nat.reduceLeDiff, Nat.zero_le, true_and, and_true, Option.some.injEq, Sum.inl.injEq, Sum.inr.injEq, true_or, or_true, and_self, q_sw]
      rw [nI_leI (by omega) (by omega)]
      refine ⟨fun _ => ?_, fun h => absurd (by omega) h⟩
      rw [show k = n by omega] at hD
      exact hD
    | succ m ih =>
      intro k S1 hk hD
      have hPk : p_ok Y (dayn Y q k (x, P, 0, 0)).2.1 := dayn_ok hY q hP k
      have ih := fun S2 => ih (k + 1) S2
      rw [show dayn Y q (k + 1) (x, P, 0, 0) = day1 Y q (dayn Y q k (x, P, 0, 0)) from rfl] at ih
      generalize dayn Y q k (x, P, 0, 0) = s at hD hPk ih
      obtain ⟨s0, s1, s2, s3⟩ := s
      obtain ⟨d0, d1, d2, d3, d4, d5⟩ := hD
      dsimp only at d0 d1 d2 d3 hPk
      have hdI : ∀ c, drI Y q s0 = some c → c < Y 1 0 := fun c hc => drI_lt hY c hc
      have hlanes : ∀ (m j : Nat) (S2 : qSt), j + m = Y 0 0 → MDR S S2 (drS Y q s0, dln (drI Y q s0) j s1, s2 + dlc (drI Y q s0) s1 j, (day1 Y q (s0, s1, s2, s3)).2.2.2) → AT 6 [some (.inr (.inr (40, 0))), some (.inl x), some (.inl (nI n)), some (.inl (nI q)), some (.inl (nI k)), some (.inl (oI (drI Y q s0))), some (.inl (nI j))] [] S2 := by
        intro m
        induction m with
        | zero =>
          intro j S2 hj hD2
          obtain ⟨e0, e1, e2, e3, e4, e5⟩ := hD2
          have hok := dln_ok hPk (drI Y q s0) j (by omega)
          refine step 40 [(1, [true, true, true, true, true, false, false]), (6, [true, true, true, true, true, true, true]), (7, [true, true, true, true, true, true, true])] 6 _ _ _ ?_
          simp only [q_vcs, q_vcc, q_vl, q_vu, ↓reduceIte, Nat.reduceEqDiff, Bool.false_eq_true, q_isc, q_mk, q_msk, zbX11_daysBy, q_pad, q_ent, q_get, q_put, q_nl, q_w, List.cons_append, List.nil_append, q_aks, q_als, Nat.reduceAdd, Nat.reduceLeDiff, Nat.zero_le, true_and, and_true, Option.some.injEq, Sum.inl.injEq, Sum.inr.injEq, true_or, or_true, and_self, q_sw]
          have t0 : q_I S2 44 0 0 = nI (Y 0 0) := (my e5).1
          rw [k0, t0, nI_leI (by omega) (by omega), nI_1]
          refine ⟨v3 0 (by decide), fun _ => ?_, fun h => absurd (by omega) h⟩
          refine ⟨_, _, (by decide : 3 < 4), c_mswaps l S2 hY (my e5) hok e1, fun v S3 g => ?_⟩
          obtain ⟨hv, g1, g2, g3⟩ := g
          cases hv
          have g40 : q_I S3 40 0 = q_I S2 40 0 := (g3 40 0 (by omega)).1
          refine ih S3 (by omega) ⟨by rw [g40]; exact e0, ?_, by rw [g40, e2, show j = Y 0 0 by omega]; rfl, by rw [g40]; exact e3, fun j hj => by rw [g40]; exact e4 j hj, e5.tr (g3.mn fun f k h => Or.inr h)⟩
          rw [show j = Y 0 0 by omega] at g1
          exact g1
        | succ m im =>
          intro j S2 hj hD2
          have hj3 : j < 3 := by omega
          obtain ⟨e0, e1, e2, e3, e4, e5⟩ := hD2
          have hok := dln_ok hPk (drI Y q s0) j (by omega)
          have hjrow : dln (drI Y q s0) j s1 j = s1 j := dln_ge _ _ (Nat.le_refl j)
          have wh : ∀ (r : List Nat) (w : Nat) (S4 : qSt), rw_ok r → dpw (drI Y q s0) r = dpw (drI Y q s0) (s1 j) → w + r.length = s2 + dlc (drI Y q s0) s1 j + (s1 j).length → MDR S S4 (drS Y q s0, sp (dln (drI Y q s0) j s1) j r, w, (day1 Y q (s0, s1, s2, s3)).2.2.2) → AT 7 [some (.inr (.inr (40, 0))), some (.inl x), some (.inl (nI n)), some (.inl (nI q)), some (.inl (nI k)), some (.inl (oI (drI Y q s0))), some (.inl (nI j))] [] S4 := by
            intro r
            induction r with
            | nil =>
              intro w S4 hr hd hw hD4
              obtain ⟨f0, f1, f2, f3, f4, f5⟩ := hD4
              have hrow := f1 j hj3
              simp only [sp, if_true, List.length_nil] at hrow
              refine step 40 [(1, [true, true, true, true, true, false, false]), (6, [true, true, true, true, true, true, true]), (7, [true, true, true, true, true, true, true])] 7 _ _ _ ?_
              simp only [q_vcs, q_vcc, q_vl, q_vu, ↓reduceIte, Nat.reduceEqDiff, Bool.false_eq_true, q_isc, q_mk, q_msk, zbX11_daysBy, q_pad, q_ent, q_get, q_put, q_nl, q_w, List.cons_append, List.nil_append, q_aks, q_als, Nat.reduceAdd, Nat.reduceLeDiff, Nat.zero_le, true_and, and_true, Option.some.injEq, Sum.inl.injEq, Sum.inr.injEq, true_or, or_true, and_self, q_sw]
              rw [i_0, i_cl (by omega), hrow.1, nI_1]
              refine ⟨i_in (by omega) (by decide), fun _ => ?_, fun h => absurd (by decide) h⟩
              refine im (j + 1) S4 (by omega) ⟨f0, ?_, ?_, f3, f4, f5⟩
              · show RW1 S4 1 (sp (dln (drI Y q s0) j s1) j (dpw (drI Y q s0) (s1 j)))
                rw [← hd]
                exact f1
              · rw [f2]
                show nI w = nI (s2 + fb_sm _ (j + 1))
                rw [fb_sm_succ]
                congr 1
                have hd2 : (dpw (drI Y q s0) (s1 j)).length = 0 := by rw [← hd]; rfl
                unfold dlc at hw
                simp only [List.length_nil] at hw
                omega
            | cons c r ihr =>
              intro w S4 hr hd hw hD4
              obtain ⟨f0, f1, f2, f3, f4, f5⟩ := hD4
              have hrl := hr.1
              simp only [List.length_cons] at hrl hw
              have hc6 := hr.2 c List.mem_cons_self
              have hst : st_ok (sp (dln (drI Y q s0) j s1) j (c :: r)) := sp_ok hok.1 hr
              have hrow := f1 j hj3
              have esp : sp (dln (drI Y q s0) j s1) j (c :: r) j = c :: r := by simp [sp]
              dsimp only at hrow
              rw [esp] at hrow
              refine step 40 [(1, [true, true, true, true, true, false, false]), (6, [true, true, true, true, true, true, true]), (7, [true, true, true, true, true, true, true])] 7 _ _ _ ?_
              simp only [q_vcs, q_vcc, q_vl, q_vu, ↓reduceIte, Nat.reduceEqDiff, Bool.false_eq_true, q_isc, q_mk, q_msk, zbX11_daysBy, q_pad, q_ent, q_get, q_put, q_nl, q_w, List.cons_append, List.nil_append, q_aks, q_als, Nat.reduceAdd, Nat.reduceLeDiff, Nat.zero_le, true_and, and_true, Option.some.injEq, Sum.inl.injEq, Sum.inr.injEq, true_or, or_true, and_self, q_sw]
              rw [i_0, i_cl (by omega), hrow.1, nI_1]
              refine ⟨i_in (by omega) (by decide), fun h => absurd h (nI_nle (by simp) (by simp; omega)), fun _ => ?_⟩
              refine q_u1 (by decide) (c_mfrontOf l S4 hst f1 hj3) ?_
              rw [esp, show (c :: r).head? = some c from rfl, show oI (some c) = nI c from rfl, oI_dpw (by omega) (fun z hz => by have := hdI z hz; omega)]
              refine ⟨fun h => ?_, fun h => ?_⟩
              · have e3' : dpw (drI Y q s0) (s1 j) = c :: r := by
                  rw [← hd]
                  unfold dpw
                  rw [List.dropWhile_cons, if_neg (by simpa using h)]
                refine im (j + 1) S4 (by omega) ⟨f0, ?_, ?_, f3, f4, f5⟩
                · show RW1 S4 1 (sp (dln (drI Y q s0) j s1) j (dpw (drI Y q s0) (s1 j)))
                  rw [e3']
                  exact f1
                · rw [f2]
                  show nI w = nI (s2 + fb_sm _ (j + 1))
                  rw [fb_sm_succ]
                  congr 1
                  have hsuf := (dpw_suf (drI Y q s0) (s1 j)).length_le
                  have hd2 : (dpw (drI Y q s0) (s1 j)).length = r.length + 1 := by rw [e3']; rfl
                  unfold dlc at hw
                  omega
              · have hout := rw1_out hst f1 hj3 (by rw [esp]; simp)
                rw [esp, sp_same] at hout
                have e9 : nI (c :: r).length - 1 = nI ((c :: r).length - 1) := i_m1 _
                have e40 : ∀ v, q_I (q_wI S4 65 1 j v) 40 0 51 = nI w := fun v => by rw [q_I_wI, if_neg (by omega)]; exact f2
                rw [hrow.1, e9, e40, nI_1]
                refine ⟨i_in (by omega) (by decide), i_in (by omega) (by decide), ?_⟩
                refine ihr (w + 1) _ ⟨by omega, fun z hz => hr.2 z (List.mem_cons_of_mem _ hz)⟩ ?_ (by omega) ⟨?_, ?_, ?_, ?_, fun z hz => ?_, fr.wI (fr.wI f5 (Or.inr ⟨rfl, rfl⟩)) (Or.inl rfl)⟩
                · rw [← hd]
                  unfold dpw
                  rw [List.dropWhile_cons, if_pos (by simpa using h)]
                · rw [q_I_wI, if_neg (by omega), q_I_wI, if_neg (by omega)]; exact f0
                · exact hout.fr (F := F40) (fr40 fr.rf) (fun q => by cases q)
                · rw [q_I_wI, if_pos ⟨rfl, rfl, rfl⟩]
                · rw [q_I_wI, if_neg (by omega), q_I_wI, if_neg (by omega)]; exact f3
                · rw [q_I_wI, if_neg (by omega), q_I_wI, if_neg (by omega)]; exact f4 z hz
          refine step 40 [(1, [true, true, true, true, true, false, false]), (6, [true, true, true, true, true, true, true]), (7, [true, true, true, true, true, true, true])] 6 _ _ _ ?_
          simp only [q_vcs, q_vcc, q_vl, q_vu, ↓reduceIte, Nat.reduceEqDiff, Bool.false_eq_true, q_isc, q_mk, q_msk, zbX11_daysBy, q_pad, q_ent, q_get, q_put, q_nl, q_w, List.cons_append, List.nil_append, q_aks, q_als, Nat.reduceAdd, Nat.reduceLeDiff, Nat.zero_le, true_and, and_true, Option.some.injEq, Sum.inl.injEq, Sum.inr.injEq, true_or, or_true, and_self, q_sw]
          have t0 : q_I S2 44 0 0 = nI (Y 0 0) := (my e5).1
          rw [k0, t0, nI_leI (by omega) (by omega)]
          refine ⟨v3 0 (by decide), fun h => absurd h (by omega), fun _ => ?_⟩
          have esame : sp (dln (drI Y q s0) j s1) j (s1 j) = dln (drI Y q s0) j s1 := by
            funext z
            simp only [sp]
            split
            · rename_i e; rw [e, hjrow]
            · rfl
          refine wh (s1 j) (s2 + dlc (drI Y q s0) s1 j) S2 (st_row hPk.1 hj3) rfl rfl ⟨e0, ?_, e2, e3, e4, e5⟩
          rw [esame]
          exact e1
      have at3 : ∀ S3, q_I S3 40 0 50 = drS Y q s0 → RW1 S3 1 s1 → q_I S3 40 0 51 = nI s2 → q_I S3 40 0 52 = nI s3 → (∀ j, j < 50 → q_I S3 40 0 j = q_I S 40 0 j) → fr (fun f k => f = 40 ∨ (f = 65 ∧ k = 1)) S S3 → AT 3 [some (.inr (.inr (40, 0))), some (.inl x), some (.inl (nI n)), some (.inl (nI q)), some (.inl (nI k)), none, none] [.inl (oI (drI Y q s0))] S3 := by
        intro S3 e0 e1 e2 e3 e4 e5
        have fin : ∀ v, v = nI (s3 + illc s1 (drI Y q s0)) → AT 6 [some (.inr (.inr (40, 0))), some (.inl x), some (.inl (nI n)), some (.inl (nI q)), some (.inl (nI k)), some (.inl (oI (drI Y q s0))), some (.inl (nI 0))] [] (q_wI S3 40 0 52 v) := fun v hv => by
          refine hlanes (Y 0 0) 0 _ (by omega) ⟨by rw [q_I_wI, if_neg (by omega)]; exact e0, e1.fr (F := F40) (fr40 fr.rf) (fun q => by cases q), by rw [q_I_wI, if_neg (by omega)]; exact e2, by rw [q_I_wI, if_pos ⟨rfl, rfl, rfl⟩, hv]; rfl, fun j hj => by rw [q_I_wI, if_neg (by omega)]; exact e4 j hj, fr.wI e5 (Or.inl rfl)⟩
        refine step 40 [(6, [true, true, true, true, true, true, true])] 3 _ _ _ ?_
        simp only [q_vcs, q_vcc, q_vl, q_vu, ↓reduceIte, Nat.reduceEqDiff, Bool.false_eq_true, q_isc, q_mk, q_msk, zbX11_daysBy, q_pad, q_ent, q_get, q_put, q_nl, q_w, List.cons_append, List.nil_append, q_aks, q_als, Nat.reduceAdd, Nat.reduceLeDiff, Nat.zero_le, true_and, and_true, Option.some.injEq, Sum.inl.injEq, Sum.inr.injEq, true_or, or_true, and_self, q_sw]
        rw [e3]
        cases hdi : drI Y q s0 with
        | none =>
          rw [hdi] at fin
          refine ⟨fun _ => ?_, fun h => absurd rfl h⟩
          rw [show (0 : Int32) = nI 0 from rfl, nI_add]
          exact fin _ rfl
        | some c =>
          rw [hdi] at fin
          have hc := hdI c hdi
          refine ⟨fun h => absurd h (i_ne1 (by omega)), fun _ => ?_⟩
          refine q_u1 (by decide) (c_mlaneOf l S3 hY (my e5) hPk e1 (c := c) (by omega)) ?_
          rw [show illc s1 (some c) = if (lnof s1 c).isSome then 1 else 0 from rfl] at fin
          cases hln : lnof s1 c with
          | none =>
            rw [hln] at fin
            refine ⟨fun _ => ?_, fun h => absurd rfl h⟩
            rw [show (0 : Int32) = nI 0 from rfl, nI_add]
            exact fin _ rfl
          | some k2 =>
            rw [hln] at fin
            have := (lnof_lt hln).1
            refine ⟨fun h => absurd h (i_ne1 (by omega)), fun _ => ?_⟩
            rw [nI_1]
            exact fin _ rfl
      refine step 40 [(1, [true, true, true, true, true, false, false]), (3, [true, true, true, true, true, false, false]), (6, [true, true, true, true, true, true, true]), (7, [true, true, true, true, true, true, true])] 1 _ _ _ ?_
      simp only [q_vcs, q_vcc, q_vl, q_vu, ↓reduceIte, Nat.reduceEqDiff, Bool.false_eq_true, q_isc, q_mk, q_msk, zbX11_daysBy, q_pad, q_ent, q_get, q_put, q_nl, q_w, List.cons_append, List.nil_append, q_aks, q_als, Nat.reduceAdd, Nat.reduceLeDiff, Nat.zero_le, true_and, and_true, Option.some.injEq, Sum.inl.injEq, Sum.inr.injEq, true_or, or_true, and_self, q_sw]
      rw [nI_leI (by omega) (by omega)]
      refine ⟨fun h => absurd h (by omega), fun _ => ?_⟩
      refine q_u1 (by decide) (c_mdraw l S1 (n := 16) (by decide) (by decide)) ?_
      rw [d0]
      have hd : drv (drw s0) % 16 < 16 := Nat.mod_lt _ (by decide)
      have t1 : q_I (q_wI S1 40 0 50 (drw s0)) 44 0 1 = nI (Y 1 0) := (my d5).2.1
      rw [nI_leI (by omega) (by omega), k1, t1]
      have hRW : RW1 (q_wI S1 40 0 50 (drw s0)) 1 s1 := d1.fr (F := F40) (fr40 fr.rf) (fun q => by cases q)
      have hno : ¬ (drv (drw s0) % 16 < q ∧ 0 < Y 1 0) → AT 3 [some (.inr (.inr (40, 0))), some (.inl x), some (.inl (nI n)), some (.inl (nI q)), some (.inl (nI k)), none, none] [.inl (-1)] (q_wI S1 40 0 50 (drw s0)) := by
        intro h
        have a := at3 (q_wI S1 40 0 50 (drw s0)) (by
          rw [q_I_wI, if_pos ⟨rfl, rfl, rfl⟩]
          unfold drS
          rw [if_neg h]) hRW (by rw [q_I_wI, if_neg (by omega)]; exact d2) (by rw [q_I_wI, if_neg (by omega)]; exact d3) (fun j hj => by rw [q_I_wI, if_neg (by omega)]; exact d4 j hj) (fr.wI d5 (Or.inl rfl))
        rw [show drI Y q s0 = none by unfold drI; rw [if_neg h]] at a
        exact a
      refine ⟨fun h => hno (by omega), fun h => ⟨v3 1 (by decide), fun h0 => hno (fun q9 => ?_), fun h0 => ⟨v3 1 (by decide), ?_⟩⟩⟩
      · rw [show (0 : Int32) = nI 0 from rfl, nI_leI (by omega) (by decide)] at h0
        omega
      · rw [show (0 : Int32) = nI 0 from rfl, nI_leI (by omega) (by decide)] at h0
        have h0' : 0 < Y 1 0 := by omega
        refine q_u1 (by decide) (c_mdraw l _ (n := Y 1 0) h0' (by omega)) ?_
        rw [q_I_wI, if_pos ⟨rfl, rfl, rfl⟩]
        have a := at3 (q_wI (q_wI S1 40 0 50 (drw s0)) 40 0 50 (drw (drw s0))) (by
          rw [q_I_wI, if_pos ⟨rfl, rfl, rfl⟩]
          unfold drS
          rw [if_pos ⟨by omega, h0'⟩]) (hRW.fr (F := F40) (fr40 fr.rf) (fun q => by cases q)) (by rw [q_I_wI, if_neg (by omega), q_I_wI, if_neg (by omega)]; exact d2) (by rw [q_I_wI, if_neg (by omega), q_I_wI, if_neg (by omega)]; exact d3) (fun j hj => by rw [q_I_wI, if_neg (by omega), q_I_wI, if_neg (by omega)]; exact d4 j hj) (fr.wI (fr.wI d5 (Or.inl rfl)) (Or.inl rfl))
        rw [show drI Y q s0 = some (drv (drw (drw s0)) % Y 1 0) by unfold drI; rw [if_pos ⟨by omega, h0'⟩]] at a
        exact a
  refine step 40 [(1, [true, true, true, true, true, false, false])] 0 _ _ _ ?_
  simp only [q_vcs, q_vcc, q_vl, q_vu, ↓reduceIte, Nat.reduceEqDiff, Bool.false_eq_true, q_isc, q_mk, q_msk, zbX11_daysBy, q_pad, q_ent, q_get, q_put, q_nl, q_w, List.cons_append, List.nil_append, q_aks, q_als, Nat.reduceAdd, Nat.reduceLeDiff, Nat.zero_le, true_and, and_true, Option.some.injEq, Sum.inl.injEq, Sum.inr.injEq, true_or, or_true, and_self, q_sw]
  refine ⟨_, _, (by decide : 0 < 4), c_mcopies l S (i := 0) (k := 1) (by decide), fun S1 h1 => ?_⟩
  have hR1 : RW1 S1 1 P := fun j hj => by
    have hl6 := (st_row hP.1 hj).1
    refine ⟨?_, fun z hz => ?_⟩
    · rw [h1.1 j (by omega)]; exact (hR j hj).1
    · rw [h1.1 _ (by omega)]; exact (hR j hj).2 z hz
  have hf1 : fr (fun f k => f = 40 ∨ (f = 65 ∧ k = 1)) S S1 := h1.2.mn fun f k h => Or.inr h
  refine hL n 0 _ (by omega) ⟨?_, ?_, ?_, ?_, fun j hj => ?_, fr.wI (fr.wI (fr.wI hf1 (Or.inl rfl)) (Or.inl rfl)) (Or.inl rfl)⟩
  · simp [q_I_wI]; rfl
  · exact hR1.fr (F := F40) (fr40 (fr40 (fr40 fr.rf))) (fun q => by cases q)
  · simp [q_I_wI]; rfl
  · simp [q_I_wI]; rfl
  · simp only [q_I_wI]
    rw [if_neg (by omega), if_neg (by omega), if_neg (by omega), (h1.2 40 0 (fun q => by cases q.1)).1]
