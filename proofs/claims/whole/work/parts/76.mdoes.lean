/-! the reference: a step done -/
def RV (S : qSt) (i : Nat) (V : PV) : Prop := RW1 S i V.1 ∧ (∀ c, c < 6 → q_I S 65 i (21 + c) = nI (V.2.2 c)) ∧ q_I S 65 i 27 = nI V.2.1 ∧ q_I S 65 i 28 = nI (fb_sm V.2.2 6)
theorem RV.fr {F : Nat → Nat → Prop} {S S' : qSt} {i : Nat} {V : PV} (h : RV S i V) (hf : fr F S S') (h1 : ¬ F 65 i) : RV S' i V := by
  unfold RV RW1 at *
  rw [(hf 65 i h1).1]
  exact h
theorem MLW.fr {F : Nat → Nat → Prop} {S S' : qSt} {c : List Tok} (h : MLW S c) (hf : fr F S S') (h1 : ¬ F 40 0) (h2 : ∀ k, ¬ F 54 k) : MLW S' c := by
  unfold MLW MLC at *
  rw [(hf 40 0 h1).1]
  rcases h with h | ⟨h, h3, h4⟩
  · exact Or.inl h
  · refine Or.inr ⟨h, h3, fun k hk => ?_⟩
    rw [(hf 54 k (h2 k)).1]
    exact h4 k hk
abbrev F612 : Nat → Nat → Prop := fun f _ => f = 61 ∨ f = 62
theorem f62 {S S1 : qSt} (h : fr F612 S S1) {j : Nat} {v : Int32} : fr F612 S (q_wI S1 62 0 j v) := fr.wI h (Or.inr rfl)
set_option maxHeartbeats 1000000 in
theorem c_msecondsOf (l : Launch) (S : qSt) {i c : Nat} {Y : YD} {V : PV} {cd : List Tok} (own : Int32) (hY : y_ok Y) (hM : MY S Y) (hP : p_ok Y V.1) (hR : RV S i V) (hc : c < Y 1 0) (hw : lwf cd) (hL : MLW S cd) : q_Met q_mt l 3 k_X11_secondsOf 1 [.inr (.inr (40, 0)), .inr (.inr (65, i)), .inl (nI c), .inl own] S (fun v S' => v = some (.inl (nI (secn (lvv (fcs Y V c own) cd)))) ∧ fr F612 S S') := by
  have h6 := hY.2.1
  have h3 := hY.1
  obtain ⟨m0, m1, m2, m3⟩ := hM.2.2.2.2 c hc
  have lg : lgt Y c = Y 4 c := by unfold lgt; rw [if_pos hc]
  have tr : trt Y c = Y 6 c := by unfold trt; rw [if_pos hc]
  have hh : hrt Y c = Y 5 c := by unfold hrt; rw [if_pos hc]
  refine q_meth zoX11_secondsOf q_fos (Nat.le_of_ble_eq_true rfl) ?_
  intro AT step
  have k0 : Int32.toNatClampNeg 0 = 0 := rfl
  have k1 : Int32.toNatClampNeg 1 = 1 := rfl
  have k2 : Int32.toNatClampNeg 2 = 2 := rfl
  have k3 : Int32.toNatClampNeg 3 = 3 := rfl
  have k4 : Int32.toNatClampNeg 4 = 4 := rfl
  have k5 : Int32.toNatClampNeg 5 = 5 := rfl
  have k6 : Int32.toNatClampNeg 6 = 6 := rfl
  have k7 : Int32.toNatClampNeg 7 = 7 := rfl
  have vi : ∀ k, k < 8 → vp_in (nI k) 8 := fun k hk => i_in hk (by decide)
  have v3 : ∀ k, k < 3 → vp_in (nI k) 3 := fun k hk => i_in hk (by decide)
  have vc : vp_in (nI c) 6 := i_in (by omega) (by decide)
  have i21 : (21 : Int32) + nI c = nI (21 + c) := by rw [show (21 : Int32) = nI 21 from rfl, nI_add]
  have at2 : ∀ (x z : Int32) (S1 : qSt), x = oI (lnof V.1 c) → z = nI ((lnof V.1 c).getD 0) → fr F612 S S1 → q_I S1 62 0 0 = nI (lgt Y c) → q_I S1 62 0 1 = nI (trt Y c) → q_I S1 62 0 2 = nI (hrt Y c) → q_I S1 62 0 3 = nI c → AT 2 [some (.inr (.inr (40, 0))), some (.inr (.inr (65, i))), some (.inl (nI c)), some (.inl own), some (.inl x)] [.inl z, .inl 4, .inr (.inr (62, 0))] S1 := by
    intro x z S1 hx hz hf1 g0 g1 g2 g3
    have hR1 : RV S1 i V := hR.fr hf1 (by omega)
    have at4 : ∀ (w : Int32) (S2 : qSt), w = nI (((lnof V.1 c).map (fun k => (V.1 k).length)).getD 0) → fr F612 S S2 → q_I S2 62 0 0 = nI (lgt Y c) → q_I S2 62 0 1 = nI (trt Y c) → q_I S2 62 0 2 = nI (hrt Y c) → q_I S2 62 0 3 = nI c → q_I S2 62 0 4 = z → AT 4 [some (.inr (.inr (40, 0))), some (.inr (.inr (65, i))), some (.inl (nI c)), some (.inl own), some (.inl x)] [.inl w, .inl 5, .inr (.inr (62, 0))] S2 := by
      intro w S2 hw2 hf2 g0 g1 g2 g3 g4
      have hR2 : RV S2 i V := hR.fr hf2 (by omega)
      refine step 20 [] 4 _ _ _ ?_
      simp only [q_vcs, q_vcc, q_vl, q_vu, ↓reduceIte, Nat.reduceEqDiff, Bool.false_eq_true, q_isc, q_mk, q_msk, zbX11_secondsOf, q_pad, q_ent, q_get, q_put, q_nl, q_w, List.cons_append, List.nil_append, q_aks, q_als, Nat.reduceAdd, Nat.reduceLeDiff, Nat.zero_le, true_and, and_true, Option.some.injEq, Sum.inl.injEq, Sum.inr.injEq, true_or, or_true, and_self, q_sw]
      have e6 : q_I (q_wI S2 62 0 5 w) 65 i (21 + c) = nI (V.2.2 c) := by
        rw [q_I_wI, if_neg (by omega)]
        exact hR2.2.1 c (by omega)
      rw [k5, k6, k7, i21, i_cl (k := 21 + c) (by omega), e6]
      refine ⟨vi 5 (by decide), i_in (by omega) (by decide), vi 6 (by decide), vi 7 (by decide), ?_⟩
      have hf5 : fr F612 S (q_wI (q_wI (q_wI S2 62 0 5 w) 62 0 6 (nI (V.2.2 c))) 62 0 7 own) := f62 (f62 (f62 hf2))
      have hF : KF (q_wI (q_wI (q_wI S2 62 0 5 w) 62 0 6 (nI (V.2.2 c))) 62 0 7 own) (fcs Y V c own) := by
        intro k hk
        have e : k = 0 ∨ k = 1 ∨ k = 2 ∨ k = 3 ∨ k = 4 ∨ k = 5 ∨ k = 6 ∨ k = 7 := by omega
        rcases e with rfl | rfl | rfl | rfl | rfl | rfl | rfl | rfl
        · simp [q_I_wI]; exact g0
        · simp [q_I_wI]; exact g1
        · simp [q_I_wI]; exact g2
        · simp [q_I_wI]; exact g3
        · simp [q_I_wI]; rw [g4, hz]; rfl
        · simp [q_I_wI]; rw [hw2]; rfl
        · simp [q_I_wI]; rfl
        · simp [q_I_wI]; rfl
      refine ⟨_, _, (by decide : 2 < 3), c_mbyLaw l _ hw (hL.fr hf5 (by omega) (fun k => by omega)) hF, fun v S3 h3 => ?_⟩
      obtain ⟨hv, h3⟩ := h3
      cases hv
      exact ⟨rfl, hf5.tr (h3.mn fun f j h => Or.inl h)⟩
    refine step 20 [(4, [true, true, true, true, true])] 2 _ _ _ ?_
    simp only [q_vcs, q_vcc, q_vl, q_vu, ↓reduceIte, Nat.reduceEqDiff, Bool.false_eq_true, q_isc, q_mk, q_msk, zbX11_secondsOf, q_pad, q_ent, q_get, q_put, q_nl, q_w, List.cons_append, List.nil_append, q_aks, q_als, Nat.reduceAdd, Nat.reduceLeDiff, Nat.zero_le, true_and, and_true, Option.some.injEq, Sum.inl.injEq, Sum.inr.injEq, true_or, or_true, and_self, q_sw]
    rw [k4]
    have hf2 : fr F612 S (q_wI S1 62 0 4 z) := f62 hf1
    have q0 : q_I (q_wI S1 62 0 4 z) 62 0 0 = nI (lgt Y c) := by rw [q_I_wI, if_neg (by omega)]; exact g0
    have q1 : q_I (q_wI S1 62 0 4 z) 62 0 1 = nI (trt Y c) := by rw [q_I_wI, if_neg (by omega)]; exact g1
    have q2 : q_I (q_wI S1 62 0 4 z) 62 0 2 = nI (hrt Y c) := by rw [q_I_wI, if_neg (by omega)]; exact g2
    have q3 : q_I (q_wI S1 62 0 4 z) 62 0 3 = nI c := by rw [q_I_wI, if_neg (by omega)]; exact g3
    have q4 : q_I (q_wI S1 62 0 4 z) 62 0 4 = z := by rw [q_I_wI, if_pos ⟨rfl, rfl, rfl⟩]
    subst hx
    cases hl : lnof V.1 c with
    | none =>
      rw [hl] at at4
      exact ⟨vi 4 (by decide), fun h => absurd rfl h, fun _ => at4 0 _ rfl hf2 q0 q1 q2 q3 q4⟩
    | some k =>
      rw [hl] at at4
      have hk3 := (lnof_lt hl).1
      have e : q_I (q_wI S1 62 0 4 z) 65 i k = nI (V.1 k).length := by
        rw [q_I_wI, if_neg (by omega)]
        exact (hR1.1 k hk3).1
      rw [show oI (some k) = nI k from rfl, i_0, i_cl (by omega), e]
      exact ⟨vi 4 (by decide), fun _ => ⟨i_in (by omega) (by decide), at4 _ _ rfl hf2 q0 q1 q2 q3 q4⟩, fun h => absurd h (i_ne1 (by omega))⟩
  refine step 20 [(2, [true, true, true, true, true])] 0 _ _ _ ?_
  simp only [q_vcs, q_vcc, q_vl, q_vu, ↓reduceIte, Nat.reduceEqDiff, Bool.false_eq_true, q_isc, q_mk, q_msk, zbX11_secondsOf, q_pad, q_ent, q_get, q_put, q_nl, q_w, List.cons_append, List.nil_append, q_aks, q_als, Nat.reduceAdd, Nat.reduceLeDiff, Nat.zero_le, true_and, and_true, Option.some.injEq, Sum.inl.injEq, Sum.inr.injEq, true_or, or_true, and_self, q_sw]
  refine q_u1 (by decide) (c_mlaneOf l S hY hM hP hR.1 (c := c) (by omega)) ?_
  rw [k0, k1, k2, k3, i_cl (by omega), m0]
  have n2 : q_I (q_wI S 62 0 0 (nI (Y 4 c))) 52 c 2 = nI (Y 6 c) := m2
  have n1 : q_I (q_wI (q_wI S 62 0 0 (nI (Y 4 c))) 62 0 1 (nI (Y 6 c))) 52 c 1 = nI (Y 5 c) := m1
  rw [n2, n1]
  refine ⟨vc, v3 0 (by decide), vi 0 (by decide), vc, v3 2 (by decide), vi 1 (by decide), vc, v3 1 (by decide), vi 2 (by decide), vi 3 (by decide), ?_⟩
  have hf : fr F612 S (q_wI (q_wI (q_wI (q_wI S 62 0 0 (nI (Y 4 c))) 62 0 1 (nI (Y 6 c))) 62 0 2 (nI (Y 5 c))) 62 0 3 (nI c)) := f62 (f62 (f62 (f62 fr.rf)))
  have go := fun z hz => at2 (oI (lnof V.1 c)) z _ rfl hz hf (by simp [q_I_wI, lg]) (by simp [q_I_wI, tr]) (by simp [q_I_wI, hh]) (by simp [q_I_wI])
  cases hl : lnof V.1 c with
  | none =>
    rw [hl] at go
    exact ⟨fun h => absurd rfl h, fun _ => go 0 rfl⟩
  | some k =>
    rw [hl] at go
    have hk3 := (lnof_lt hl).1
    exact ⟨fun _ => go (nI k) rfl, fun h => absurd h (i_ne1 (by omega))⟩
