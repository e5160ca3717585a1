/-! The class's questions with loops: sure, most, spare, pays -/
def hv9 : Nat → Nat → Nat → Nat × Nat
  | 0, u, l => (u, l)
  | t + 1, u, l => if u % 2 = 0 then hv9 t (u / 2) (l / 2) else (u, l)
def suV (m q n : Nat) : Int32 := if n = 0 then nI (q ^ m / Nat.gcd (16 ^ m) (q ^ m)) else nI (16 ^ m / Nat.gcd (16 ^ m) (q ^ m))
theorem hv_tab : ∀ m, m < 7 → ∀ q, q < 17 → hv9 (4 * m) (q ^ m) (16 ^ m) = (q ^ m / Nat.gcd (16 ^ m) (q ^ m), 16 ^ m / Nat.gcd (16 ^ m) (q ^ m)) := by decide +kernel
theorem pw_tab : ∀ m, m < 7 → ∀ q, q < 17 → q ^ m < 2 ^ 30 ∧ 16 ^ m < 2 ^ 30 := by decide +kernel
noncomputable def sp_sure (a : AS) (x q y : Int32) : SPR := spK a x ((0 ≤ q ∧ q ≤ 16) ∧ (0 ≤ y ∧ y ≤ 1)) (.inr (suV (ahd (aV a).1 x.toNatClampNeg).length q.toNatClampNeg y.toNatClampNeg), a)
def mo9 (m : Nat → Nat) : Nat → Option Nat × Nat
  | 0 => (none, 0)
  | n + 1 => if (mo9 m n).2 < m n then (some n, m n) else mo9 m n
def moV (q : Option Nat × Nat) (n : Nat) : Int32 := match q.1 with
  | none => -1
  | some b => if n = 0 then nI b else nI q.2
noncomputable def sp_most (a : AS) (y : Int32) : SPR := spI a (0 ≤ y ∧ y ≤ 1) (.inr (moV (mo9 (aV a).2.2 (aY a 1 0)) y.toNatClampNeg), a)
noncomputable def spF (a : AS) (m e : Nat) : Bool := match (fewA (aY a) e none (aV a).1).1 with
  | none => false
  | some F => decide (F ≤ m)
noncomputable def sp_spare (a : AS) (y : Int32) : SPR := spI a (0 ≤ y ∧ y ≤ 20) (.inr (oI ((List.range 5).find? (spF a y.toNatClampNeg))), a)
def bd9 (L : Nat → Nat) (n : Nat) : Nat → Nat
  | 0 => 0
  | N + 1 => if bd9 L n N = N ∧ L (N + 1) ≤ n then N + 1 else bd9 L n N
theorem bd_stop {L : Nat → Nat} {n b : Nat} (h : bd9 L n b = b) : ∀ {N : Nat}, b ≤ N → ¬ (b < N ∧ L (b + 1) ≤ n) → bd9 L n N = b
  | 0, hN, _ => by rw [show b = 0 by omega]; rfl
  | N + 1, hN, hs => by
    by_cases e : b = N + 1
    · rw [← e]; exact h
    · have ih := bd_stop h (N := N) (by omega) (fun q => hs ⟨by omega, q.2⟩)
      rw [bd9, ih, if_neg]
      rintro ⟨q1, q2⟩
      subst q1
      exact hs ⟨by omega, q2⟩
noncomputable def sp_pays (a : AS) (x u n : Int32) : SPR := spK a x (arC a u ∧ (0 ≤ n ∧ n ≤ 999)) (.inr (if u.toNatClampNeg.testBit x.toNatClampNeg then nI (min (bd9 (lvl (aV a).2.2 u.toNatClampNeg) n.toNatClampNeg n.toNatClampNeg) ((aV a).2.2 x.toNatClampNeg)) else 0), a)
theorem a_sure (l : Launch) (hl : l.stackTraces = false) {S : qSt} {t : Nat} {a : AS} {B : Nat} (hC : CL S t a) (hO : OKA a B) (ht : t + 25 < 65536) (x q y : Int32) : CA l k_X10_sure [.inr (.inr (0, 0)), .inl x, .inl q, .inl y] S t nmC (sp_sure a x q y) := by
  unfold sp_sure
  by_cases h1 : isCr a x
  · by_cases h2 : (0 ≤ q ∧ q ≤ 16) ∧ (0 ≤ y ∧ y ≤ 1)
    · rw [spK_3 h1 h2]
      obtain ⟨k, hk, rfl⟩ := isCr_ex hO h1
      obtain ⟨q, hq, rfl⟩ := i_rng (m := 16) (by decide) h2.1.1 h2.1.2
      obtain ⟨n, hn, rfl⟩ := i_rng (m := 1) (by decide) h2.2.1 h2.2.2
      have hH := hC.2.2.2.1
      have hV := hH.2.2 (aW a) (Nat.le_refl _)
      have hY := hC.1.2.2.2
      have gv := hO.v
      have h3 := hO.1.1
      have h6 := hO.1.2.1
      rw [i_cl (by omega), i_cl (by omega), i_cl (by omega)]
      have hb := bo_lt (ahd_lt gv.1.1 k)
      have hm : (ahd (aV a).1 k).length ≤ 6 := nd_len (ahd_nd gv.1 k) (ahd_lt gv.1.1 k)
      have epc : pcn (bo (ahd (aV a).1 k)) = (ahd (aV a).1 k).length := pcn_bo (ahd_nd gv.1 k) (ahd_lt gv.1.1 k)
      generalize (ahd (aV a).1 k).length = m at hm epc ⊢
      obtain ⟨pw1, pw2⟩ := pw_tab m (by omega) q (by omega)
      have htab := hv_tab m (by omega) q (by omega)
      refine CA_s (d := 9) (by decide) hC ?_
      refine q_meth zoX10_sure q_fos (Nat.le_of_ble_eq_true rfl) ?_
      intro AT step
      have k7 : ∀ u v, (u, v) = (q ^ m / Nat.gcd (16 ^ m) (q ^ m), 16 ^ m / Nat.gcd (16 ^ m) (q ^ m)) → AT 7 [some (.inr (.inr (0, 0))), some (.inl (nI k)), some (.inl (nI q)), some (.inl (nI n)), some (.inl (nI u)), some (.inl (nI v)), none, none] [] S := by
        intro u v he
        injection he with e1 e2
        refine step 40 [(3, [true, true, true, true, false, false, false, false]), (4, [true, true, true, true, true, true, true, true]), (6, [true, true, true, true, true, true, false, true]), (7, [true, true, true, true, true, true, false, false])] 7 _ _ _ ?_
        simp only [q_vcs, q_vcc, q_vl, q_vu, ↓reduceIte, Nat.reduceEqDiff, Bool.false_eq_true, q_isc, q_mk, q_msk, zbX10_sure, q_pad, q_ent, q_get, q_put, q_nl, q_w, List.cons_append, List.nil_append, q_aks, q_als, Nat.reduceAdd, Nat.reduceLeDiff, Nat.zero_le, true_and, and_true, Option.some.injEq, Sum.inl.injEq, Sum.inr.injEq, true_or, or_true, and_self, q_sw]
        rw [show (0 : Int32) = nI 0 from rfl, nI_eq (by omega) (by decide)]
        unfold suV
        refine ⟨fun h => ?_, fun h => ?_⟩
        · rw [if_neg h, e2]
        · rw [if_pos h, e1]
      have k6 : ∀ r u v, r ≤ 24 → u < 2 ^ 30 → v < 2 ^ 30 → hv9 r u v = (q ^ m / Nat.gcd (16 ^ m) (q ^ m), 16 ^ m / Nat.gcd (16 ^ m) (q ^ m)) → AT 6 [some (.inr (.inr (0, 0))), some (.inl (nI k)), some (.inl (nI q)), some (.inl (nI n)), some (.inl (nI (u))), some (.inl (nI (v))), none, some (.inl (nI (r)))] [] S := by
        intro r
        induction r with
        | zero =>
          intro u v _ _ _ he
          refine step 40 [(3, [true, true, true, true, false, false, false, false]), (4, [true, true, true, true, true, true, true, true]), (6, [true, true, true, true, true, true, false, true]), (7, [true, true, true, true, true, true, false, false])] 6 _ _ _ ?_
          simp only [q_vcs, q_vcc, q_vl, q_vu, ↓reduceIte, Nat.reduceEqDiff, Bool.false_eq_true, q_isc, q_mk, q_msk, zbX10_sure, q_pad, q_ent, q_get, q_put, q_nl, q_w, List.cons_append, List.nil_append, q_aks, q_als, Nat.reduceAdd, Nat.reduceLeDiff, Nat.zero_le, true_and, and_true, Option.some.injEq, Sum.inl.injEq, Sum.inr.injEq, true_or, or_true, and_self, q_sw]
          exact ⟨fun _ => k7 u v he, fun h => absurd (by decide) h⟩
        | succ r ih =>
          intro u v hr hu hv he
          rw [hv9] at he
          refine step 40 [(3, [true, true, true, true, false, false, false, false]), (4, [true, true, true, true, true, true, true, true]), (6, [true, true, true, true, true, true, false, true]), (7, [true, true, true, true, true, true, false, false])] 6 _ _ _ ?_
          simp only [q_vcs, q_vcc, q_vl, q_vu, ↓reduceIte, Nat.reduceEqDiff, Bool.false_eq_true, q_isc, q_mk, q_msk, zbX10_sure, q_pad, q_ent, q_get, q_put, q_nl, q_w, List.cons_append, List.nil_append, q_aks, q_als, Nat.reduceAdd, Nat.reduceLeDiff, Nat.zero_le, true_and, and_true, Option.some.injEq, Sum.inl.injEq, Sum.inr.injEq, true_or, or_true, and_self, q_sw]
          rw [show (0 : Int32) = nI 0 from rfl, nI_leI (by omega) (by decide), show (2 : Int32) = nI 2 from rfl, i_rem (by omega) (by decide) (by decide), i_div (by omega) (by decide) (by decide), i_div (by omega) (by decide) (by decide), i_neg1]
          refine ⟨fun h => absurd h (by omega), fun _ => ⟨by decide, fun h => ?_, fun h => ⟨by decide, by decide, ?_⟩⟩⟩
          · rw [nI_eq (by omega) (by decide)] at h
            rw [if_neg h] at he
            exact k7 u v he
          · rw [nI_eq (by omega) (by decide)] at h
            rw [if_pos h] at he
            exact ih (u / 2) (v / 2) (by omega) (by omega) (by omega) he
      have k4 : ∀ r i, i + r = m → AT 4 [some (.inr (.inr (0, 0))), some (.inl (nI k)), some (.inl (nI q)), some (.inl (nI n)), some (.inl (nI (q ^ i))), some (.inl (nI (16 ^ i))), some (.inl (nI m)), some (.inl (nI (i)))] [] S := by
        intro r
        induction r with
        | zero =>
          intro i hi
          have hi : i = m := by omega
          subst hi
          refine step 40 [(3, [true, true, true, true, false, false, false, false]), (4, [true, true, true, true, true, true, true, true]), (6, [true, true, true, true, true, true, false, true]), (7, [true, true, true, true, true, true, false, false])] 4 _ _ _ ?_
          simp only [q_vcs, q_vcc, q_vl, q_vu, ↓reduceIte, Nat.reduceEqDiff, Bool.false_eq_true, q_isc, q_mk, q_msk, zbX10_sure, q_pad, q_ent, q_get, q_put, q_nl, q_w, List.cons_append, List.nil_append, q_aks, q_als, Nat.reduceAdd, Nat.reduceLeDiff, Nat.zero_le, true_and, and_true, Option.some.injEq, Sum.inl.injEq, Sum.inr.injEq, true_or, or_true, and_self, q_sw]
          rw [nI_leI (by omega) (by omega), show (4 : Int32) = nI 4 from rfl, pk_mul]
          exact ⟨fun _ => k6 (4 * i) (q ^ i) (16 ^ i) (by omega) pw1 pw2 htab, fun h => absurd (Nat.le_refl _) h⟩
        | succ r ih =>
          intro i hi
          have ih := ih (i + 1) (by omega)
          rw [Nat.pow_succ, Nat.pow_succ] at ih
          refine step 40 [(3, [true, true, true, true, false, false, false, false]), (4, [true, true, true, true, true, true, true, true]), (6, [true, true, true, true, true, true, false, true]), (7, [true, true, true, true, true, true, false, false])] 4 _ _ _ ?_
          simp only [q_vcs, q_vcc, q_vl, q_vu, ↓reduceIte, Nat.reduceEqDiff, Bool.false_eq_true, q_isc, q_mk, q_msk, zbX10_sure, q_pad, q_ent, q_get, q_put, q_nl, q_w, List.cons_append, List.nil_append, q_aks, q_als, Nat.reduceAdd, Nat.reduceLeDiff, Nat.zero_le, true_and, and_true, Option.some.injEq, Sum.inl.injEq, Sum.inr.injEq, true_or, or_true, and_self, q_sw]
          rw [nI_leI (by omega) (by omega), pk_mul, show (16 : Int32) = nI 16 from rfl, pk_mul, nI_1]
          exact ⟨fun h => absurd h (by omega), fun _ => ih⟩
      have k3 : AT 3 [some (.inr (.inr (0, 0))), some (.inl (nI k)), some (.inl (nI q)), some (.inl (nI n)), none, none, none, none] [.inl 1, .inr (.inr (0, 0))] S := by
        refine step 40 [(3, [true, true, true, true, false, false, false, false]), (4, [true, true, true, true, true, true, true, true]), (6, [true, true, true, true, true, true, false, true]), (7, [true, true, true, true, true, true, false, false])] 3 _ _ _ ?_
        simp only [q_vcs, q_vcc, q_vl, q_vu, ↓reduceIte, Nat.reduceEqDiff, Bool.false_eq_true, q_isc, q_mk, q_msk, zbX10_sure, q_pad, q_ent, q_get, q_put, q_nl, q_w, List.cons_append, List.nil_append, q_aks, q_als, Nat.reduceAdd, Nat.reduceLeDiff, Nat.zero_le, true_and, and_true, Option.some.injEq, Sum.inl.injEq, Sum.inr.injEq, true_or, or_true, and_self, q_sw]
        refine q_u0 (by decide) (c_need1 l S) ?_
        refine q_u29 (by decide) (c_latest l S hH) ?_
        rw [hV.1]
        refine q_u1 (by decide) (c_aheadOf l S gv.1.1 (c := k) (by omega)) ?_
        refine q_u1 (by decide) (c_bitCount l S (n := bo (ahd (aV a).1 k)) (by omega)) ?_
        rw [epc]
        exact k4 m 0 (by omega)
      refine step 40 [(3, [true, true, true, true, false, false, false, false]), (4, [true, true, true, true, true, true, true, true]), (6, [true, true, true, true, true, true, false, true]), (7, [true, true, true, true, true, true, false, false])] 0 _ _ _ ?_
      simp only [q_vcs, q_vcc, q_vl, q_vu, ↓reduceIte, Nat.reduceEqDiff, Bool.false_eq_true, q_isc, q_mk, q_msk, zbX10_sure, q_pad, q_ent, q_get, q_put, q_nl, q_w, List.cons_append, List.nil_append, q_aks, q_als, Nat.reduceAdd, Nat.reduceLeDiff, Nat.zero_le, true_and, and_true, Option.some.injEq, Sum.inl.injEq, Sum.inr.injEq, true_or, or_true, and_self, q_sw]
      refine q_u0 (by decide) (c_needCarO l hC h1) ?_
      refine q_u1 (by decide) (c_isWithin l S (nI q) 0 16) ?_
      rw [decide_eq_true h2.1]
      refine ⟨fun q => absurd q (by decide), fun _ => ?_⟩
      refine q_u1 (by decide) (c_isWithin l S (nI n) 0 1) ?_
      rw [decide_eq_true h2.2]
      refine ⟨fun q => absurd q (by decide), fun _ => ?_⟩
      exact k3
    · rw [spK_2 h1 h2]
      refine CA_x (d := 7) (by decide) ?_
      refine q_methC zoX10_sure (Nat.le_of_ble_eq_true rfl) ?_
      intro AT step hX
      have go := fun ls => hX 3 ls [.inl 0, .inr (.inr (0, 0))] S ⟨_, _, _, _, _, _, _, _, _, _, _, _, _, zbX10_sure.2.2.2.1, rfl, Nat.le_of_ble_eq_true rfl, Nat.le_of_ble_eq_true rfl, by decide, c_needX l hl hC nmC 2 rfl⟩
      refine step 40 [(3, [true, true, true, true, false, false, false, false])] 0 _ _ _ ?_
      simp only [q_vcs, q_vcc, q_vl, q_vu, ↓reduceIte, Nat.reduceEqDiff, Bool.false_eq_true, q_isc, q_mk, q_msk, zbX10_sure, q_pad, q_ent, q_get, q_put, q_nl, q_w, List.cons_append, List.nil_append, q_aks, q_als, Nat.reduceAdd, Nat.reduceLeDiff, Nat.zero_le, true_and, and_true, Option.some.injEq, Sum.inl.injEq, Sum.inr.injEq, true_or, or_true, and_self, q_sw]
      refine q_u0 (by decide) (c_needCarO l hC h1) ?_
      refine q_u1 (by decide) (c_isWithin l S q 0 16) ?_
      by_cases k1 : 0 ≤ q ∧ q ≤ 16
      · rw [decide_eq_true k1]
        refine ⟨fun q => absurd q (by decide), fun _ => ?_⟩
        refine q_u1 (by decide) (c_isWithin l S y 0 1) ?_
        rw [decide_eq_false (fun z => h2 ⟨k1, z⟩)]
        exact ⟨fun _ => go _, fun q => absurd rfl q⟩
      · rw [decide_eq_false k1]
        exact ⟨fun _ => go _, fun q => absurd rfl q⟩
  · rw [spK_1 h1]
    refine CA_x (d := 7) (by decide) ?_
    refine q_methC zoX10_sure (Nat.le_of_ble_eq_true rfl) ?_
    intro AT step hX
    refine step 40 [(1, [true, true, true, true, true, true, true, true])] 0 _ _ _ ?_
    simp only [q_vcs, q_vcc, q_vl, q_vu, ↓reduceIte, Nat.reduceEqDiff, Bool.false_eq_true, q_isc, q_mk, q_msk, zbX10_sure, q_pad, q_ent, q_get, q_put, q_nl, q_w, List.cons_append, List.nil_append, q_aks, q_als, Nat.reduceAdd, Nat.reduceLeDiff, Nat.zero_le, true_and, and_true, Option.some.injEq, Sum.inl.injEq, Sum.inr.injEq, true_or, or_true, and_self, q_sw]
    exact hX 1 _ _ _ ⟨_, _, _, _, _, _, _, _, _, _, _, _, _, zbX10_sure.2.1, rfl, Nat.le_of_ble_eq_true rfl, Nat.le_of_ble_eq_true rfl, by decide, c_needCarX l hl hC h1⟩
theorem a_most (l : Launch) (hl : l.stackTraces = false) {S : qSt} {t : Nat} {a : AS} {B : Nat} (hC : CL S t a) (hO : OKA a B) (ht : t + 25 < 65536) (y : Int32) : CA l k_X10_most [.inr (.inr (0, 0)), .inl y] S t nmI (sp_most a y) := by
  unfold sp_most
  by_cases h2 : 0 ≤ y ∧ y ≤ 1
  · rw [spI_2 h2]
    obtain ⟨n, hn, rfl⟩ := i_rng (m := 1) (by decide) h2.1 h2.2
    have hH := hC.2.2.2.1
    have hV := hH.2.2 (aW a) (Nat.le_refl _)
    have hY := hC.1.2.2.2
    have gv := hO.v
    have h3 := hO.1.1
    have h6 := hO.1.2.1
    rw [i_cl (by omega)]
    refine CA_s (d := 9) (by decide) hC ?_
    refine q_meth zoX10_most q_fos (Nat.le_of_ble_eq_true rfl) ?_
    intro AT step
    have hm : ∀ c, c < 6 → (aV a).2.2 c < 2 ^ 31 := fun c hc => by have := gv.2.2 c hc; have := hO.2.2.2.2.2.2.2; omega
    have mlt : ∀ i, i ≤ 6 → (mo9 (aV a).2.2 i).2 < 2 ^ 31 ∧ ∀ b, (mo9 (aV a).2.2 i).1 = some b → b < 6 := by
      intro i
      induction i with
      | zero => intro _; exact ⟨(by decide : 0 < 2 ^ 31), fun b e => by cases e⟩
      | succ i ih =>
        intro hi
        rw [mo9]
        split
        · exact ⟨hm i (by omega), fun b e => by cases e; omega⟩
        · exact ih (by omega)
    have k2 : ∀ r i, i + r = aY a 1 0 → AT 2 [some (.inr (.inr (0, 0))), some (.inl (nI n)), some (.inr (.inr (26, 17 * 0 + aW a))), some (.inl (oI (mo9 (aV a).2.2 i).1)), some (.inl (nI (mo9 (aV a).2.2 i).2)), some (.inl (nI i))] [] S := by
      intro r
      induction r with
      | zero =>
        intro i hi
        have hi : i = aY a 1 0 := by omega
        subst hi
        refine step 40 [(2, [true, true, true, true, true, true])] 2 _ _ _ ?_
        simp only [q_vcs, q_vcc, q_vl, q_vu, ↓reduceIte, Nat.reduceEqDiff, Bool.false_eq_true, q_isc, q_mk, q_msk, zbX10_most, q_pad, q_ent, q_get, q_put, q_nl, q_w, List.cons_append, List.nil_append, q_aks, q_als, Nat.reduceAdd, Nat.reduceLeDiff, Nat.zero_le, true_and, and_true, Option.some.injEq, Sum.inl.injEq, Sum.inr.injEq, true_or, or_true, and_self, q_sw]
        rw [hY.1.2.1, nI_leI (by omega) (by omega), show (0 : Int32) = nI 0 from rfl, nI_eq (by omega) (by decide)]
        refine ⟨fun _ => ?_, fun h => absurd (Nat.le_refl _) h⟩
        unfold moV
        cases hq : (mo9 (aV a).2.2 (aY a 1 0)).1 with
        | none => exact ⟨fun _ => rfl, fun h => absurd rfl h⟩
        | some b =>
          have := (mlt (aY a 1 0) h6).2 b hq
          refine ⟨fun h => absurd h (i_ne1 (n := b) (by omega)), fun _ => ⟨fun h => ?_, fun h => ?_⟩⟩
          · dsimp only; rw [if_neg h]
          · dsimp only; rw [if_pos h]; rfl
      | succ r ih =>
        intro i hi
        have ih := ih (i + 1) (by omega)
        rw [mo9] at ih
        have ml := (mlt i (by omega)).1
        refine step 40 [(2, [true, true, true, true, true, true])] 2 _ _ _ ?_
        simp only [q_vcs, q_vcc, q_vl, q_vu, ↓reduceIte, Nat.reduceEqDiff, Bool.false_eq_true, q_isc, q_mk, q_msk, zbX10_most, q_pad, q_ent, q_get, q_put, q_nl, q_w, List.cons_append, List.nil_append, q_aks, q_als, Nat.reduceAdd, Nat.reduceLeDiff, Nat.zero_le, true_and, and_true, Option.some.injEq, Sum.inl.injEq, Sum.inr.injEq, true_or, or_true, and_self, q_sw]
        rw [hY.1.2.1, nI_leI (by omega) (by omega), nI_1]
        refine ⟨fun h => absurd h (by omega), fun _ => ?_⟩
        refine q_u1 (by decide) (c_movesOf l S hV (c := i) (by omega)) ?_
        rw [nI_leI (hm i (by omega)) ml]
        refine ⟨fun h => ?_, fun h => ?_⟩
        · rw [if_neg (by omega)] at ih
          exact ih
        · refine q_u1 (by decide) (c_movesOf l S hV (c := i) (by omega)) ?_
          rw [if_pos (by omega)] at ih
          exact ih
    refine step 40 [(2, [true, true, true, true, true, true])] 0 _ _ _ ?_
    simp only [q_vcs, q_vcc, q_vl, q_vu, ↓reduceIte, Nat.reduceEqDiff, Bool.false_eq_true, q_isc, q_mk, q_msk, zbX10_most, q_pad, q_ent, q_get, q_put, q_nl, q_w, List.cons_append, List.nil_append, q_aks, q_als, Nat.reduceAdd, Nat.reduceLeDiff, Nat.zero_le, true_and, and_true, Option.some.injEq, Sum.inl.injEq, Sum.inr.injEq, true_or, or_true, and_self, q_sw]
    refine q_u1 (by decide) (c_isWithin l S (nI n) 0 1) ?_
    rw [decide_eq_true h2]
    refine q_u0 (by decide) (c_need1 l S) ?_
    refine q_u29 (by decide) (c_latest l S hH) ?_
    exact k2 (aY a 1 0) 0 (by omega)
  · rw [spI_1 h2]
    refine CA_x (d := 7) (by decide) ?_
    refine q_methC zoX10_most (Nat.le_of_ble_eq_true rfl) ?_
    intro AT step hX
    refine step 40 [(1, [true, true, true, true, true, true])] 0 _ _ _ ?_
    simp only [q_vcs, q_vcc, q_vl, q_vu, ↓reduceIte, Nat.reduceEqDiff, Bool.false_eq_true, q_isc, q_mk, q_msk, zbX10_most, q_pad, q_ent, q_get, q_put, q_nl, q_w, List.cons_append, List.nil_append, q_aks, q_als, Nat.reduceAdd, Nat.reduceLeDiff, Nat.zero_le, true_and, and_true, Option.some.injEq, Sum.inl.injEq, Sum.inr.injEq, true_or, or_true, and_self, q_sw]
    refine q_u1 (by decide) (c_isWithin l S y 0 1) ?_
    rw [decide_eq_false h2]
    exact hX 1 _ _ _ ⟨_, _, _, _, _, _, _, _, _, _, _, _, _, zbX10_most.2.1, rfl, Nat.le_of_ble_eq_true rfl, Nat.le_of_ble_eq_true rfl, by decide, c_needX l hl hC nmI 1 rfl⟩
theorem a_spare (l : Launch) (hl : l.stackTraces = false) {S : qSt} {t : Nat} {a : AS} {B : Nat} (hC : CL S t a) (hO : OKA a B) (ht : t + 25 < 65536) (y : Int32) : CA l k_X10_spare [.inr (.inr (0, 0)), .inl y] S t nmI (sp_spare a y) := by
  unfold sp_spare
  by_cases h2 : 0 ≤ y ∧ y ≤ 20
  · rw [spI_2 h2]
    obtain ⟨n, hn, rfl⟩ := i_rng (m := 20) (by decide) h2.1 h2.2
    have hH := hC.2.2.2.1
    have hV := hH.2.2 (aW a) (Nat.le_refl _)
    have hY := hC.1.2.2.2
    have gv := hO.v
    have h3 := hO.1.1
    have h6 := hO.1.2.1
    rw [i_cl (by omega)]
    refine CA_r (d := 9) (by decide) ?_
    refine q_meth zoX10_spare q_fos (Nat.le_of_ble_eq_true rfl) ?_
    intro AT step
    have k2 : ∀ r e S1 t1, e + r = 5 → t1 ≤ t + 5 * e → CL S1 t1 a → fr Fcl S S1 → (List.range' e r).find? (spF a n) = (List.range 5).find? (spF a n) → AT 2 [some (.inr (.inr (0, 0))), some (.inl (nI n)), some (.inl (nI e)), none] [] S1 := by
      intro r
      induction r with
      | zero =>
        intro e S1 t1 he ht1 hC1 hf hfd
        have he : e = 5 := by omega
        subst he
        refine step 40 [(2, [true, true, true, false])] 2 _ _ _ ?_
        simp only [q_vcs, q_vcc, q_vl, q_vu, ↓reduceIte, Nat.reduceEqDiff, Bool.false_eq_true, q_isc, q_mk, q_msk, zbX10_spare, q_pad, q_ent, q_get, q_put, q_nl, q_w, List.cons_append, List.nil_append, q_aks, q_als, Nat.reduceAdd, Nat.reduceLeDiff, Nat.zero_le, true_and, and_true, Option.some.injEq, Sum.inl.injEq, Sum.inr.injEq, true_or, or_true, and_self, q_sw]
        refine ⟨fun _ => ⟨?_, ⟨t1, by omega, hC1⟩, hf⟩, fun h => absurd (by decide) h⟩
        rw [← hfd]
        rfl
      | succ r ih =>
        intro e S1 t1 he ht1 hC1 hf hfd
        rw [List.range'_succ, List.find?_cons] at hfd
        have hH1 := hC1.2.2.2.1
        have hV1 := hH1.2.2 (aW a) (Nat.le_refl _)
        refine step 40 [(2, [true, true, true, false])] 2 _ _ _ ?_
        simp only [q_vcs, q_vcc, q_vl, q_vu, ↓reduceIte, Nat.reduceEqDiff, Bool.false_eq_true, q_isc, q_mk, q_msk, zbX10_spare, q_pad, q_ent, q_get, q_put, q_nl, q_w, List.cons_append, List.nil_append, q_aks, q_als, Nat.reduceAdd, Nat.reduceLeDiff, Nat.zero_le, true_and, and_true, Option.some.injEq, Sum.inl.injEq, Sum.inr.injEq, true_or, or_true, and_self, q_sw]
        rw [show (4 : Int32) = nI 4 from rfl, nI_ltI (by decide) (by omega), nI_1]
        refine ⟨fun h => absurd h (by omega), fun _ => ?_⟩
        refine q_u29 (by decide) (c_latest l S1 hH1) ?_
        rw [hV1.1]
        refine ⟨_, _, (by decide : 7 < 9), c_seekA l hC1 hO (w := e) (g := none) (by omega) gv.1 (fitW_of gv.2.1) (by omega) (fun c hc => by cases hc), fun v S2 h => ?_⟩
        obtain ⟨g1, g2, g3, ⟨t2, g4, g5⟩, g6⟩ := h
        cases g1
        have hf2 : fr Fcl S S2 := hf.tr (g6.mn (fun f i q => by show f < 40; rcases q with q | q | q | q <;> omega))
        cases hq : (fewA (aY a) e none (aV a).1).1 with
        | none =>
          have hs : spF a n e = false := by unfold spF; rw [hq]
          rw [hs] at hfd
          exact ⟨fun _ => ih (e + 1) S2 t2 (by omega) (by omega) g5 hf2 hfd, fun h => absurd rfl h⟩
        | some F =>
          have hF := g3 F hq
          refine ⟨fun h => absurd h (i_ne1 (n := F) (by omega)), fun _ => ?_⟩
          rw [show oI (some F) = nI F from rfl, nI_ltI (by omega) (by omega)]
          refine ⟨fun h => ?_, fun h => ⟨?_, ⟨t2, by omega, g5⟩, hf2⟩⟩
          · have hs : spF a n e = false := by unfold spF; rw [hq]; exact decide_eq_false (by omega)
            rw [hs] at hfd
            exact ih (e + 1) S2 t2 (by omega) (by omega) g5 hf2 hfd
          · have hs : spF a n e = true := by unfold spF; rw [hq]; exact decide_eq_true (by omega)
            rw [hs] at hfd
            rw [← hfd]
            rfl
    refine step 40 [(2, [true, true, true, false])] 0 _ _ _ ?_
    simp only [q_vcs, q_vcc, q_vl, q_vu, ↓reduceIte, Nat.reduceEqDiff, Bool.false_eq_true, q_isc, q_mk, q_msk, zbX10_spare, q_pad, q_ent, q_get, q_put, q_nl, q_w, List.cons_append, List.nil_append, q_aks, q_als, Nat.reduceAdd, Nat.reduceLeDiff, Nat.zero_le, true_and, and_true, Option.some.injEq, Sum.inl.injEq, Sum.inr.injEq, true_or, or_true, and_self, q_sw]
    refine q_u1 (by decide) (c_isWithin l S (nI n) 0 20) ?_
    rw [decide_eq_true h2]
    refine q_u0 (by decide) (c_need1 l S) ?_
    exact k2 5 0 S t (by omega) (by omega) hC fr.rf (by rw [← List.range_eq_range'])
  · rw [spI_1 h2]
    refine CA_x (d := 7) (by decide) ?_
    refine q_methC zoX10_spare (Nat.le_of_ble_eq_true rfl) ?_
    intro AT step hX
    refine step 40 [(1, [true, true, true, true])] 0 _ _ _ ?_
    simp only [q_vcs, q_vcc, q_vl, q_vu, ↓reduceIte, Nat.reduceEqDiff, Bool.false_eq_true, q_isc, q_mk, q_msk, zbX10_spare, q_pad, q_ent, q_get, q_put, q_nl, q_w, List.cons_append, List.nil_append, q_aks, q_als, Nat.reduceAdd, Nat.reduceLeDiff, Nat.zero_le, true_and, and_true, Option.some.injEq, Sum.inl.injEq, Sum.inr.injEq, true_or, or_true, and_self, q_sw]
    refine q_u1 (by decide) (c_isWithin l S y 0 20) ?_
    rw [decide_eq_false h2]
    exact hX 1 _ _ _ ⟨_, _, _, _, _, _, _, _, _, _, _, _, _, zbX10_spare.2.1, rfl, Nat.le_of_ble_eq_true rfl, Nat.le_of_ble_eq_true rfl, by decide, c_needX l hl hC nmI 1 rfl⟩
theorem a_pays (l : Launch) (hl : l.stackTraces = false) {S : qSt} {t : Nat} {a : AS} {B : Nat} (hC : CL S t a) (hO : OKA a B) (ht : t + 25 < 65536) (x u n : Int32) : CA l k_X10_pays [.inr (.inr (0, 0)), .inl x, .inl u, .inl n] S t nmC (sp_pays a x u n) := by
  unfold sp_pays
  by_cases h1 : isCr a x
  · by_cases h2 : arC a u ∧ (0 ≤ n ∧ n ≤ 999)
    · rw [spK_3 h1 h2]
      have hH := hC.2.2.2.1
      have hV := hH.2.2 (aW a) (Nat.le_refl _)
      have hY := hC.1.2.2.2
      have gv := hO.v
      have h3 := hO.1.1
      have h6 := hO.1.2.1
      obtain ⟨k, hk, rfl⟩ := isCr_ex hO h1
      have hp : (2 : Nat) ^ aY a 1 0 ≤ 2 ^ 6 := Nat.pow_le_pow_right (by decide) h6
      obtain ⟨u, hu, rfl⟩ := i_rng1 (m := 2 ^ aY a 1 0) (by omega) h2.1
      obtain ⟨n, hn, rfl⟩ := i_rng (m := 999) (by decide) h2.2.1 h2.2.2
      rw [i_cl (by omega), i_cl (by omega), i_cl (by omega)]
      have hm : ∀ c, c < 6 → (aV a).2.2 c < 2 ^ 31 := fun c hc => by have := gv.2.2 c hc; have := hO.2.2.2.2.2.2.2; omega
      have hlv : ∀ b, b ≤ 1000 → lvl (aV a).2.2 u b < 2 ^ 31 := fun b hb => by
        have key : ∀ j, fb_sm (fun c => if u.testBit c then min b ((aV a).2.2 c) else 0) j ≤ 1000 * j := by
          intro j
          induction j with
          | zero => exact Nat.le_refl _
          | succ j ih =>
            rw [fb_sm_succ]
            split <;> omega
        have := key 6
        unfold lvl
        omega
      refine CA_s (d := 9) (by decide) hC ?_
      refine q_meth zoX10_pays q_fos (Nat.le_of_ble_eq_true rfl) ?_
      intro AT step
      have k5 : u.testBit k = true → ∀ r b, b + r = n → bd9 (lvl (aV a).2.2 u) n b = b → AT 5 [some (.inr (.inr (0, 0))), some (.inl (nI k)), some (.inl (nI u)), some (.inl (nI n)), some (.inr (.inr (26, 17 * 0 + aW a))), some (.inl (nI b))] [] S := by
        intro hbit r
        have fin : ∀ b, b ≤ n → bd9 (lvl (aV a).2.2 u) n n = b → (if nI ((aV a).2.2 k) < nI b then nI ((aV a).2.2 k) else nI b) = (if u.testBit k then nI (min (bd9 (lvl (aV a).2.2 u) n n) ((aV a).2.2 k)) else 0) := fun b hb e => by
          rw [if_pos hbit, e, i_min (by omega) (hm k (by omega))]
        induction r with
        | zero =>
          intro b hb he
          have hb : b = n := by omega
          subst hb
          refine step 40 [(3, [true, true, true, true, false, false]), (5, [true, true, true, true, true, true])] 5 _ _ _ ?_
          simp only [q_vcs, q_vcc, q_vl, q_vu, ↓reduceIte, Nat.reduceEqDiff, Bool.false_eq_true, q_isc, q_mk, q_msk, zbX10_pays, q_pad, q_ent, q_get, q_put, q_nl, q_w, List.cons_append, List.nil_append, q_aks, q_als, Nat.reduceAdd, Nat.reduceLeDiff, Nat.zero_le, true_and, and_true, Option.some.injEq, Sum.inl.injEq, Sum.inr.injEq, true_or, or_true, and_self, q_sw]
          rw [nI_leI (by omega) (by omega)]
          refine ⟨fun _ => ?_, fun h => absurd (Nat.le_refl _) h⟩
          refine q_u1 (by decide) (c_movesOf l S hV (c := k) (by omega)) ?_
          exact ⟨by decide, fin b (Nat.le_refl _) he, rfl⟩
        | succ r ih =>
          intro b hb he
          refine step 40 [(3, [true, true, true, true, false, false]), (5, [true, true, true, true, true, true])] 5 _ _ _ ?_
          simp only [q_vcs, q_vcc, q_vl, q_vu, ↓reduceIte, Nat.reduceEqDiff, Bool.false_eq_true, q_isc, q_mk, q_msk, zbX10_pays, q_pad, q_ent, q_get, q_put, q_nl, q_w, List.cons_append, List.nil_append, q_aks, q_als, Nat.reduceAdd, Nat.reduceLeDiff, Nat.zero_le, true_and, and_true, Option.some.injEq, Sum.inl.injEq, Sum.inr.injEq, true_or, or_true, and_self, q_sw]
          rw [nI_leI (by omega) (by omega), nI_1]
          refine ⟨fun h => absurd h (by omega), fun _ => ?_⟩
          refine q_u1 (by decide) (c_levelled l S hV hm (cars := u) (b := b + 1) (by omega) (by omega)) ?_
          rw [nI_ltI (by omega) (hlv (b + 1) (by omega))]
          refine ⟨fun h => ?_, fun h => ?_⟩
          · refine q_u1 (by decide) (c_movesOf l S hV (c := k) (by omega)) ?_
            exact ⟨by decide, fin b (by omega) (bd_stop he (by omega) (fun z => by omega)), rfl⟩
          · refine ih (b + 1) (by omega) ?_
            rw [bd9, if_pos ⟨he, by omega⟩]
      have k3 : AT 3 [some (.inr (.inr (0, 0))), some (.inl (nI k)), some (.inl (nI u)), some (.inl (nI n)), none, none] [.inl 1, .inr (.inr (0, 0))] S := by
        refine step 40 [(3, [true, true, true, true, false, false]), (5, [true, true, true, true, true, true])] 3 _ _ _ ?_
        simp only [q_vcs, q_vcc, q_vl, q_vu, ↓reduceIte, Nat.reduceEqDiff, Bool.false_eq_true, q_isc, q_mk, q_msk, zbX10_pays, q_pad, q_ent, q_get, q_put, q_nl, q_w, List.cons_append, List.nil_append, q_aks, q_als, Nat.reduceAdd, Nat.reduceLeDiff, Nat.zero_le, true_and, and_true, Option.some.injEq, Sum.inl.injEq, Sum.inr.injEq, true_or, or_true, and_self, q_sw]
        refine q_u0 (by decide) (c_need1 l S) ?_
        rw [i_bit (by omega) (by omega), i_bit0]
        refine ⟨fun h => ?_, fun h => ?_⟩
        · refine q_u29 (by decide) (c_latest l S hH) ?_
          exact k5 (by simpa using h) n 0 (by omega) rfl
        · rw [h]
          exact ⟨rfl, rfl⟩
      refine step 40 [(3, [true, true, true, true, false, false]), (5, [true, true, true, true, true, true])] 0 _ _ _ ?_
      simp only [q_vcs, q_vcc, q_vl, q_vu, ↓reduceIte, Nat.reduceEqDiff, Bool.false_eq_true, q_isc, q_mk, q_msk, zbX10_pays, q_pad, q_ent, q_get, q_put, q_nl, q_w, List.cons_append, List.nil_append, q_aks, q_als, Nat.reduceAdd, Nat.reduceLeDiff, Nat.zero_le, true_and, and_true, Option.some.injEq, Sum.inl.injEq, Sum.inr.injEq, true_or, or_true, and_self, q_sw]
      refine q_u0 (by decide) (c_needCarO l hC h1) ?_
      refine q_u1 (by decide) (c_areCars l hC hO (nI u)) ?_
      rw [dpT h2.1]
      refine ⟨fun q => absurd q (by decide), fun _ => ?_⟩
      refine q_u1 (by decide) (c_isWithin l S (nI n) 0 999) ?_
      rw [decide_eq_true h2.2]
      refine ⟨fun q => absurd q (by decide), fun _ => ?_⟩
      exact k3
    · rw [spK_2 h1 h2]
      refine CA_x (d := 7) (by decide) ?_
      refine q_methC zoX10_pays (Nat.le_of_ble_eq_true rfl) ?_
      intro AT step hX
      have go := fun ls => hX 3 ls [.inl 0, .inr (.inr (0, 0))] S ⟨_, _, _, _, _, _, _, _, _, _, _, _, _, zbX10_pays.2.2.2.1, rfl, Nat.le_of_ble_eq_true rfl, Nat.le_of_ble_eq_true rfl, by decide, c_needX l hl hC nmC 2 rfl⟩
      refine step 40 [(3, [true, true, true, true, false, false])] 0 _ _ _ ?_
      simp only [q_vcs, q_vcc, q_vl, q_vu, ↓reduceIte, Nat.reduceEqDiff, Bool.false_eq_true, q_isc, q_mk, q_msk, zbX10_pays, q_pad, q_ent, q_get, q_put, q_nl, q_w, List.cons_append, List.nil_append, q_aks, q_als, Nat.reduceAdd, Nat.reduceLeDiff, Nat.zero_le, true_and, and_true, Option.some.injEq, Sum.inl.injEq, Sum.inr.injEq, true_or, or_true, and_self, q_sw]
      refine q_u0 (by decide) (c_needCarO l hC h1) ?_
      refine q_u1 (by decide) (c_areCars l hC hO u) ?_
      by_cases k1 : arC a u
      · rw [dpT k1]
        refine ⟨fun q => absurd q (by decide), fun _ => ?_⟩
        refine q_u1 (by decide) (c_isWithin l S n 0 999) ?_
        rw [decide_eq_false (fun z => h2 ⟨k1, z⟩)]
        exact ⟨fun _ => go _, fun q => absurd rfl q⟩
      · rw [dpF k1]
        exact ⟨fun _ => go _, fun q => absurd rfl q⟩
  · rw [spK_1 h1]
    refine CA_x (d := 7) (by decide) ?_
    refine q_methC zoX10_pays (Nat.le_of_ble_eq_true rfl) ?_
    intro AT step hX
    refine step 40 [(1, [true, true, true, true, true, true])] 0 _ _ _ ?_
    simp only [q_vcs, q_vcc, q_vl, q_vu, ↓reduceIte, Nat.reduceEqDiff, Bool.false_eq_true, q_isc, q_mk, q_msk, zbX10_pays, q_pad, q_ent, q_get, q_put, q_nl, q_w, List.cons_append, List.nil_append, q_aks, q_als, Nat.reduceAdd, Nat.reduceLeDiff, Nat.zero_le, true_and, and_true, Option.some.injEq, Sum.inl.injEq, Sum.inr.injEq, true_or, or_true, and_self, q_sw]
    exact hX 1 _ _ _ ⟨_, _, _, _, _, _, _, _, _, _, _, _, _, zbX10_pays.2.1, rfl, Nat.le_of_ble_eq_true rfl, Nat.le_of_ble_eq_true rfl, by decide, c_needCarX l hl hC h1⟩
