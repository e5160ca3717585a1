/-! The reference's questions: spare, lane, pays, sure, leaks -/
theorem fb_term (f : Nat → Nat) {k : Nat} : ∀ n, k < n → f k ≤ fb_sm f n
  | 0, h => absurd h (Nat.not_lt_zero _)
  | n + 1, h => by
    rw [fb_sm_succ]
    by_cases e : k = n
    · subst e; omega
    · have := fb_term f n (show k < n by omega); omega
theorem fb_mono {f g : Nat → Nat} : ∀ n, (∀ c, c < n → f c ≤ g c) → fb_sm f n ≤ fb_sm g n
  | 0, _ => Nat.le_refl _
  | n + 1, h => by
    rw [fb_sm_succ, fb_sm_succ]
    have := fb_mono n (fun c hc => h c (by omega))
    have := h n (by omega)
    omega
theorem fb_up {f : Nat → Nat} {B : Nat} : ∀ n, (∀ c, c < n → f c ≤ B) → fb_sm f n ≤ B * n
  | 0, _ => Nat.le_refl _
  | n + 1, h => by
    rw [fb_sm_succ, Nat.mul_succ]
    have := fb_up n (fun c hc => h c (by omega))
    have := h n (by omega)
    omega
theorem bd_sp (L : Nat → Nat) (n : Nat) : ∀ N, bd9 L n N ≤ N ∧ (∀ j, j < bd9 L n N → L (j + 1) ≤ n) ∧ (bd9 L n N < N → n < L (bd9 L n N + 1))
  | 0 => ⟨Nat.le_refl _, fun j hj => absurd hj (Nat.not_lt_zero _), fun h => absurd h (Nat.not_lt_zero _)⟩
  | N + 1 => by
    obtain ⟨h1, h2, h3⟩ := bd_sp L n N
    rw [bd9]
    by_cases e : bd9 L n N = N ∧ L (N + 1) ≤ n
    · rw [if_pos e]
      refine ⟨Nat.le_refl _, fun j hj => ?_, fun h => absurd h (Nat.lt_irrefl _)⟩
      by_cases z : j = N
      · rw [z]; exact e.2
      · exact h2 j (by omega)
    · rw [if_neg e]
      refine ⟨by omega, h2, fun _ => ?_⟩
      by_cases z : bd9 L n N = N
      · rw [z]; exact Nat.lt_of_not_le (fun q => e ⟨z, q⟩)
      · exact h3 (by omega)
theorem bd_same {m : Nat → Nat} {u n k : Nat} (hk : k < 6) (hb : u.testBit k = true) : min (bd9 (lvl m u) n (fb_sm m 6)) (m k) = min (bd9 (lvl m u) n n) (m k) := by
  obtain ⟨a1, a2, a3⟩ := bd_sp (lvl m u) n (fb_sm m 6)
  obtain ⟨b1, b2, b3⟩ := bd_sp (lvl m u) n n
  have hM := fb_term m 6 hk
  by_cases e : bd9 (lvl m u) n (fb_sm m 6) < bd9 (lvl m u) n n
  · have := b2 _ e
    have : ¬ bd9 (lvl m u) n (fb_sm m 6) < fb_sm m 6 := fun q => by have := a3 q; omega
    omega
  · by_cases e2 : bd9 (lvl m u) n n < bd9 (lvl m u) n (fb_sm m 6)
    · have h1 := a2 _ e2
      have hn : bd9 (lvl m u) n n = n := by
        by_cases q : bd9 (lvl m u) n n < n
        · have := b3 q; omega
        · omega
      rw [hn] at h1
      have : min (n + 1) (m k) ≤ lvl m u (n + 1) := by
        have := fb_term (fun c => if u.testBit c then min (n + 1) (m c) else 0) 6 hk
        rw [if_pos hb] at this
        exact this
      omega
    · rw [show bd9 (lvl m u) n (fb_sm m 6) = bd9 (lvl m u) n n by omega]
theorem r_pays (l : Launch) {S : qSt} {a : AS} {B : Nat} (hR : RF S a) (hO : OKA a B) (x u n : Int32) : RA l k_X11_pays [.inr (.inr (40, 0)), .inl x, .inl u, .inl n] S (sp_pays a x u n) := by
  unfold sp_pays
  by_cases h1 : isCr a x
  · by_cases h2 : (arC a u) ∧ (0 ≤ n ∧ n ≤ 999)
    · rw [spK_3 h1 h2]
      have hp : (2 : Nat) ^ aY a 1 0 ≤ 2 ^ 6 := Nat.pow_le_pow_right (by decide) hO.1.2.1
      have h69 := hO.1.2.1
      obtain ⟨k, hk, rfl⟩ := isCr_ex hO h1
      obtain ⟨u, hu, rfl⟩ := i_rng1 (m := 2 ^ aY a 1 0) (by omega) h2.1
      obtain ⟨n, hn, rfl⟩ := i_rng (m := 999) (by decide) h2.2.1 h2.2.2
      rw [i_cl (by omega), i_cl (by omega), i_cl (by omega)]
      have hR0 := hR.th (v := 0)
      have gv := hO.v
      have hM := hR0.1
      have hV := hR0.2.2.2.1.2.1
      have h3 := hO.1.1
      have h6 := hO.1.2.1
      refine RA_s (d := 20) (by decide) hR ?_
      refine q_meth zoX11_pays q_fos (Nat.le_of_ble_eq_true rfl) ?_
      intro AT step
      have hm : ∀ c, c < 6 → (aV a).2.2 c < 2 ^ 31 := fun c hc => by have := gv.2.2 c hc; have := hO.2.2.2.2.2.2.2; omega
      have hB := hO.2.2.2.2.2.2.2
      have hMb : fb_sm (aV a).2.2 6 ≤ B * 6 := fb_up 6 (fun c hc => gv.2.2 c hc)
      have hlv : ∀ b, lvl (aV a).2.2 u b < 2 ^ 31 := fun b => by
        have : lvl (aV a).2.2 u b ≤ fb_sm (aV a).2.2 6 := fb_mono 6 (fun c hc => by first | (dsimp only; split <;> omega) | (split <;> omega))
        omega
      have k8 : ∀ r b, b + r = fb_sm (aV a).2.2 6 → bd9 (lvl (aV a).2.2 u) n b = b → AT 8 [some (.inr (.inr (40, 0))), some (.inl (nI k)), some (.inl (nI u)), some (.inl (nI n)), some (.inl (nI b))] [] (q_wI S 40 0 0 0) := by
        intro r
        have fin : ∀ b, b ≤ fb_sm (aV a).2.2 6 → bd9 (lvl (aV a).2.2 u) n (fb_sm (aV a).2.2 6) = b → AT 9 [some (.inr (.inr (40, 0))), some (.inl (nI k)), some (.inl (nI u)), some (.inl (nI n)), some (.inl (nI b))] [] (q_wI S 40 0 0 0) := fun b hb e => by
          refine step 40 [(8, [true, true, true, true, true]), (9, [true, true, true, true, true])] 9 _ _ _ ?_
          simp only [q_vcs, q_vcc, q_vl, q_vu, ↓reduceIte, Nat.reduceEqDiff, Bool.false_eq_true, q_isc, q_mk, q_msk, zbX11_pays, q_pad, q_ent, q_get, q_put, q_nl, q_w, List.cons_append, List.nil_append, q_aks, q_als, Nat.reduceAdd, Nat.reduceLeDiff, Nat.zero_le, true_and, and_true, Option.some.injEq, Sum.inl.injEq, Sum.inr.injEq, true_or, or_true, and_self, q_sw]
          refine q_u1 (by decide) (c_mhas l _ (n := u) (k := k) (by omega) (by omega)) ?_
          rw [show (21 : Int32) + nI k = nI (21 + k) by rw [show (21 : Int32) = nI 21 from rfl, nI_add], i_cl (by omega), hV.2.1 k (by omega)]
          cases hbit : u.testBit k with
          | false => refine ⟨fun _ => ?_, fun q => absurd rfl q⟩; first | rfl | exact ⟨rfl, rfl⟩
          | true =>
            refine ⟨fun q => absurd q (by decide), fun _ => ⟨i_in (by omega) (by decide), ?_⟩⟩
            refine q_u1 (by decide) (c_mless l _ _ _) ?_
            have := bd_same (m := (aV a).2.2) (n := n) (show k < 6 by omega) hbit
            rw [e] at this
            have h2 := i_min (a := (aV a).2.2 k) (b := b) (hm k (by omega)) (by omega)
            rw [Nat.min_comm] at h2
            rw [if_pos rfl, ← this]
            first | exact h2 | exact ⟨h2, rfl⟩
        induction r with
        | zero =>
          intro b hb he
          have hb : b = fb_sm (aV a).2.2 6 := by omega
          have kf := fin b (by omega) (by rw [← hb]; exact he)
          refine step 40 [(8, [true, true, true, true, true]), (9, [true, true, true, true, true])] 8 _ _ _ ?_
          simp only [q_vcs, q_vcc, q_vl, q_vu, ↓reduceIte, Nat.reduceEqDiff, Bool.false_eq_true, q_isc, q_mk, q_msk, zbX11_pays, q_pad, q_ent, q_get, q_put, q_nl, q_w, List.cons_append, List.nil_append, q_aks, q_als, Nat.reduceAdd, Nat.reduceLeDiff, Nat.zero_le, true_and, and_true, Option.some.injEq, Sum.inl.injEq, Sum.inr.injEq, true_or, or_true, and_self, q_sw]
          rw [show q_I (q_wI S 40 0 0 0) 65 0 (Int32.toNatClampNeg 28) = nI (fb_sm (aV a).2.2 6) from hV.2.2.2, nI_leI (by omega) (by omega)]
          exact ⟨i_in (k := 28) (by decide) (by decide), fun _ => kf, fun q => absurd (by omega) q⟩
        | succ r ih =>
          intro b hb he
          have kf := fin b (by omega)
          refine step 40 [(8, [true, true, true, true, true]), (9, [true, true, true, true, true])] 8 _ _ _ ?_
          simp only [q_vcs, q_vcc, q_vl, q_vu, ↓reduceIte, Nat.reduceEqDiff, Bool.false_eq_true, q_isc, q_mk, q_msk, zbX11_pays, q_pad, q_ent, q_get, q_put, q_nl, q_w, List.cons_append, List.nil_append, q_aks, q_als, Nat.reduceAdd, Nat.reduceLeDiff, Nat.zero_le, true_and, and_true, Option.some.injEq, Sum.inl.injEq, Sum.inr.injEq, true_or, or_true, and_self, q_sw]
          rw [show q_I (q_wI S 40 0 0 0) 65 0 (Int32.toNatClampNeg 28) = nI (fb_sm (aV a).2.2 6) from hV.2.2.2, nI_leI (by omega) (by omega), nI_1]
          refine ⟨i_in (k := 28) (by decide) (by decide), fun q => absurd q (by omega), fun _ => ?_⟩
          refine q_u1 (by decide) (c_mgivenBy l _ hO.1 hM hV hm hu (b := b + 1) (by omega)) ?_
          rw [nI_ltI (by omega) (show lvl (aH a (aW a)).2.2 u (b + 1) < 2 ^ 31 from hlv (b + 1))]
          refine ⟨fun q => kf (bd_stop he (by omega) (fun z => by have : lvl (aV a).2.2 u (b + 1) ≤ n := z.2; have e : lvl (aV a).2.2 u (b + 1) = lvl (aH a (aW a)).2.2 u (b + 1) := rfl; omega)), fun q => ih (b + 1) (by omega) ?_⟩
          rw [bd9, if_pos ⟨he, by have e : lvl (aV a).2.2 u (b + 1) = lvl (aH a (aW a)).2.2 u (b + 1) := rfl; omega⟩]
      have kc : AT 7 [some (.inr (.inr (40, 0))), some (.inl (nI k)), some (.inl (nI u)), some (.inl (nI n)), none] [] (q_wI S 40 0 0 0) := by
        refine step 40 [(7, [true, true, true, true, true]), (8, [true, true, true, true, true])] 7 _ _ _ ?_
        simp only [q_vcs, q_vcc, q_vl, q_vu, ↓reduceIte, Nat.reduceEqDiff, Bool.false_eq_true, q_isc, q_mk, q_msk, zbX11_pays, q_pad, q_ent, q_get, q_put, q_nl, q_w, List.cons_append, List.nil_append, q_aks, q_als, Nat.reduceAdd, Nat.reduceLeDiff, Nat.zero_le, true_and, and_true, Option.some.injEq, Sum.inl.injEq, Sum.inr.injEq, true_or, or_true, and_self, q_sw]
        exact k8 _ 0 (Nat.zero_add _) rfl
      refine step 40 [(7, [true, true, true, true, true])] 0 _ _ _ ?_
      simp only [q_vcs, q_vcc, q_vl, q_vu, ↓reduceIte, Nat.reduceEqDiff, Bool.false_eq_true, q_isc, q_mk, q_msk, zbX11_pays, q_pad, q_ent, q_get, q_put, q_nl, q_w, List.cons_append, List.nil_append, q_aks, q_als, Nat.reduceAdd, Nat.reduceLeDiff, Nat.zero_le, true_and, and_true, Option.some.injEq, Sum.inl.injEq, Sum.inr.injEq, true_or, or_true, and_self, q_sw]
      refine q_u1 (by decide) (c_misCar l _ (hR.th (v := 0)).1 _) ?_
      rw [show decide (0 ≤ (nI k) ∧ (nI k) ≤ nI (aY a 1 0) - 1) = true from decide_eq_true h1]
      first | refine ⟨fun _ => ?_, fun q => absurd q (by decide)⟩ | refine ⟨fun q => absurd q (by decide), fun _ => ?_⟩
      refine q_u1 (by decide) (c_mbN l S (w := 1) (r := 0) (by decide) (by decide)) ?_
      first | refine ⟨fun _ => ?_, fun q => absurd q (by decide)⟩ | refine ⟨fun q => absurd q (by decide), fun _ => ?_⟩
      refine q_u1 (by decide) (c_mareCars l _ hO.1 (hR.th (v := 0)).1 (nI u)) ?_
      rw [show decide (0 ≤ (nI u) ∧ (nI u) ≤ nI (2 ^ aY a 1 0) - 1) = true from decide_eq_true h2.1]
      first | refine ⟨fun _ => ?_, fun q => absurd q (by decide)⟩ | refine ⟨fun q => absurd q (by decide), fun _ => ?_⟩
      refine q_u1 (by decide) (c_min l _ (nI n) 0 999) ?_
      rw [decide_eq_true h2.2]
      first | refine ⟨fun _ => ?_, fun q => absurd q (by decide)⟩ | refine ⟨fun q => absurd q (by decide), fun _ => ?_⟩
      refine q_u1 (by decide) (c_mbN l S (w := 2) (r := 1) (by decide) (by decide)) ?_
      first | refine ⟨fun _ => ?_, fun q => absurd q (by decide)⟩ | refine ⟨fun q => absurd q (by decide), fun _ => ?_⟩
      exact kc
    · rw [spK_2 h1 h2]
      refine RA_i (d := 20) (by decide) hR ?_
      refine q_meth zoX11_pays q_fos (Nat.le_of_ble_eq_true rfl) ?_
      intro AT step
      refine step 40 [(7, [true, true, true, true, true])] 0 _ _ _ ?_
      simp only [q_vcs, q_vcc, q_vl, q_vu, ↓reduceIte, Nat.reduceEqDiff, Bool.false_eq_true, q_isc, q_mk, q_msk, zbX11_pays, q_pad, q_ent, q_get, q_put, q_nl, q_w, List.cons_append, List.nil_append, q_aks, q_als, Nat.reduceAdd, Nat.reduceLeDiff, Nat.zero_le, true_and, and_true, Option.some.injEq, Sum.inl.injEq, Sum.inr.injEq, true_or, or_true, and_self, q_sw]
      refine q_u1 (by decide) (c_misCar l _ (hR.th (v := 0)).1 _) ?_
      rw [show decide (0 ≤ x ∧ x ≤ nI (aY a 1 0) - 1) = true from decide_eq_true h1]
      first | refine ⟨fun _ => ?_, fun q => absurd q (by decide)⟩ | refine ⟨fun q => absurd q (by decide), fun _ => ?_⟩
      refine q_u1 (by decide) (c_mbN l S (w := 1) (r := 0) (by decide) (by decide)) ?_
      first | refine ⟨fun _ => ?_, fun q => absurd q (by decide)⟩ | refine ⟨fun q => absurd q (by decide), fun _ => ?_⟩
      refine q_u1 (by decide) (c_mareCars l _ hO.1 (hR.th (v := 0)).1 u) ?_
      by_cases k0 : arC a u
      · rw [show decide (0 ≤ u ∧ u ≤ nI (2 ^ aY a 1 0) - 1) = true from decide_eq_true k0]
        first | refine ⟨fun _ => ?_, fun q => absurd q (by decide)⟩ | refine ⟨fun q => absurd q (by decide), fun _ => ?_⟩
        refine q_u1 (by decide) (c_min l _ n 0 999) ?_
        rw [decide_eq_false (fun z => h2 ⟨k0, z⟩)]
        first | refine ⟨fun _ => ?_, fun q => absurd q (by decide)⟩ | refine ⟨fun q => absurd q (by decide), fun _ => ?_⟩
        refine q_u1 (by decide) (c_mbY l S (w := 2) (r := 1) (by decide) (by decide)) ?_
        first | refine ⟨fun _ => ?_, fun q => absurd q (by decide)⟩ | refine ⟨fun q => absurd q (by decide), fun _ => ?_⟩
        first | rfl | exact ⟨rfl, rfl⟩ | trivial
      · rw [show decide (0 ≤ u ∧ u ≤ nI (2 ^ aY a 1 0) - 1) = false from decide_eq_false k0]
        first | refine ⟨fun _ => ?_, fun q => absurd q (by decide)⟩ | refine ⟨fun q => absurd q (by decide), fun _ => ?_⟩
        refine q_u1 (by decide) (c_mbY l S (w := 2) (r := 1) (by decide) (by decide)) ?_
        first | refine ⟨fun _ => ?_, fun q => absurd q (by decide)⟩ | refine ⟨fun q => absurd q (by decide), fun _ => ?_⟩
        first | rfl | exact ⟨rfl, rfl⟩ | trivial
  · rw [spK_1 h1]
    refine RA_n (d := 20) (by decide) hR ?_
    refine q_meth zoX11_pays q_fos (Nat.le_of_ble_eq_true rfl) ?_
    intro AT step
    refine step 40 [(7, [true, true, true, true, true])] 0 _ _ _ ?_
    simp only [q_vcs, q_vcc, q_vl, q_vu, ↓reduceIte, Nat.reduceEqDiff, Bool.false_eq_true, q_isc, q_mk, q_msk, zbX11_pays, q_pad, q_ent, q_get, q_put, q_nl, q_w, List.cons_append, List.nil_append, q_aks, q_als, Nat.reduceAdd, Nat.reduceLeDiff, Nat.zero_le, true_and, and_true, Option.some.injEq, Sum.inl.injEq, Sum.inr.injEq, true_or, or_true, and_self, q_sw]
    refine q_u1 (by decide) (c_misCar l _ (hR.th (v := 0)).1 _) ?_
    rw [show decide (0 ≤ x ∧ x ≤ nI (aY a 1 0) - 1) = false from decide_eq_false h1]
    first | refine ⟨fun _ => ?_, fun q => absurd q (by decide)⟩ | refine ⟨fun q => absurd q (by decide), fun _ => ?_⟩
    refine q_u1 (by decide) (c_mbY l S (w := 1) (r := 0) (by decide) (by decide)) ?_
    first | refine ⟨fun _ => ?_, fun q => absurd q (by decide)⟩ | refine ⟨fun q => absurd q (by decide), fun _ => ?_⟩
    first | rfl | exact ⟨rfl, rfl⟩ | trivial
def KS (S S' : qSt) : Prop := (∀ j, j < 46 → q_I S' 40 0 j = q_I S 40 0 j) ∧ fr (fun f i => f = 40 ∨ f = 61 ∨ f = 62 ∨ (f = 65 ∧ 1 ≤ i ∧ i ≤ 3) ∨ (69 ≤ f ∧ f ≤ 72)) S S'
theorem KS.kq {S S1 S2 : qSt} {v : Int32} (h : KS S S1) (h2 : KQ (q_wI S1 40 0 47 v) S2) : KS S S2 := ⟨fun j hj => by rw [h2.2 j (by omega), q_I_wI, if_neg (by omega)]; exact h.1 j hj, (fr.wI h.2 (Or.inl rfl)).tr (h2.1.mn (fun f i q => by omega))⟩
theorem KS.kk {S S1 : qSt} (h : KS S S1) (h0 : q_I S 40 0 47 = nI 0) : KK S (q_wI S1 40 0 47 0) := ⟨fun j hj => by
  rw [q_I_wI]
  by_cases e : j = 47
  · rw [if_pos ⟨rfl, rfl, e⟩, e, h0]; rfl
  · rw [if_neg (fun z => e z.2.2)]; exact h.1 j (by omega), fr.wI h.2 (Or.inl rfl)⟩
theorem r_spare (l : Launch) {S : qSt} {a : AS} {B : Nat} (hR : RF S a) (hO : OKA a B) (y : Int32) : RA l k_X11_spare [.inr (.inr (40, 0)), .inl y] S (sp_spare a y) := by
  unfold sp_spare
  by_cases h2 : 0 ≤ y ∧ y ≤ 20
  · rw [spI_2 h2]
    obtain ⟨n, hn, rfl⟩ := i_rng (m := 20) (by decide) h2.1 h2.2
    rw [i_cl (by omega)]
    have hR0 := hR.th (v := 0)
    have gv := hO.v
    have hM := hR0.1
    have hV := hR0.2.2.2.1.2.1
    have h3 := hO.1.1
    have h6 := hO.1.2.1
    refine RA_k (d := 20) (by decide) hR ?_
    refine q_meth zoX11_spare q_fos (Nat.le_of_ble_eq_true rfl) ?_
    intro AT step
    have h47 := hR0.2.2.2.2.2.2.2.2
    have fin : ∀ r i b S1, (b = none → i = 5) → KS (q_wI S 40 0 0 0) S1 → i + r = 5 → b = (List.range 5).find? (spF a n) → AT 7 [some (.inr (.inr (40, 0))), some (.inl (nI n)), some (.inl (oI b)), some (.inl (nI i)), none] [] S1 := by
      intro r i b S1 hb hk hi he
      refine step 40 [(4, [true, true, true, true, false]), (7, [true, true, true, true, false])] 7 _ _ _ ?_
      simp only [q_vcs, q_vcc, q_vl, q_vu, ↓reduceIte, Nat.reduceEqDiff, Bool.false_eq_true, q_isc, q_mk, q_msk, zbX11_spare, q_pad, q_ent, q_get, q_put, q_nl, q_w, List.cons_append, List.nil_append, q_aks, q_als, Nat.reduceAdd, Nat.reduceLeDiff, Nat.zero_le, true_and, and_true, Option.some.injEq, Sum.inl.injEq, Sum.inr.injEq, true_or, or_true, and_self, q_sw]
      rw [he]
      exact ⟨rfl, hk.kk h47⟩
    have k4b : ∀ i e S1, i ≤ 5 → e < 5 → KS (q_wI S 40 0 0 0) S1 → some e = (List.range 5).find? (spF a n) → AT 4 [some (.inr (.inr (40, 0))), some (.inl (nI n)), some (.inl (nI e)), some (.inl (nI i)), none] [] S1 := by
      intro i e S1 hi he hk hf
      have kf := fin (5 - i) i (some e) S1 (fun z => by cases z) hk (by omega) hf
      refine step 40 [(4, [true, true, true, true, false]), (7, [true, true, true, true, false])] 4 _ _ _ ?_
      simp only [q_vcs, q_vcc, q_vl, q_vu, ↓reduceIte, Nat.reduceEqDiff, Bool.false_eq_true, q_isc, q_mk, q_msk, zbX11_spare, q_pad, q_ent, q_get, q_put, q_nl, q_w, List.cons_append, List.nil_append, q_aks, q_als, Nat.reduceAdd, Nat.reduceLeDiff, Nat.zero_le, true_and, and_true, Option.some.injEq, Sum.inl.injEq, Sum.inr.injEq, true_or, or_true, and_self, q_sw]
      rw [show (5 : Int32) = nI 5 from rfl, nI_leI (by decide) (by omega)]
      exact ⟨fun _ => kf, fun _ => ⟨fun _ => kf, fun q => absurd q (i_ne1 (n := e) (by omega))⟩⟩
    have k4 : ∀ r i S1, i + r = 5 → KS (q_wI S 40 0 0 0) S1 → (List.range' i r).find? (spF a n) = (List.range 5).find? (spF a n) → AT 4 [some (.inr (.inr (40, 0))), some (.inl (nI n)), some (.inl (-1)), some (.inl (nI i)), none] [] S1 := by
      intro r
      induction r with
      | zero =>
        intro i S1 hi hk hf
        have kf := fin 0 i none S1 (fun _ => by omega) hk hi hf
        refine step 40 [(4, [true, true, true, true, false]), (7, [true, true, true, true, false])] 4 _ _ _ ?_
        simp only [q_vcs, q_vcc, q_vl, q_vu, ↓reduceIte, Nat.reduceEqDiff, Bool.false_eq_true, q_isc, q_mk, q_msk, zbX11_spare, q_pad, q_ent, q_get, q_put, q_nl, q_w, List.cons_append, List.nil_append, q_aks, q_als, Nat.reduceAdd, Nat.reduceLeDiff, Nat.zero_le, true_and, and_true, Option.some.injEq, Sum.inl.injEq, Sum.inr.injEq, true_or, or_true, and_self, q_sw]
        rw [show (5 : Int32) = nI 5 from rfl, nI_leI (by decide) (by omega)]
        exact ⟨fun _ => kf, fun q => absurd (by omega) q⟩
      | succ r ih =>
        intro i S1 hi hk hf
        rw [List.range'_succ, List.find?_cons] at hf
        refine step 40 [(4, [true, true, true, true, false]), (7, [true, true, true, true, false])] 4 _ _ _ ?_
        simp only [q_vcs, q_vcc, q_vl, q_vu, ↓reduceIte, Nat.reduceEqDiff, Bool.false_eq_true, q_isc, q_mk, q_msk, zbX11_spare, q_pad, q_ent, q_get, q_put, q_nl, q_w, List.cons_append, List.nil_append, q_aks, q_als, Nat.reduceAdd, Nat.reduceLeDiff, Nat.zero_le, true_and, and_true, Option.some.injEq, Sum.inl.injEq, Sum.inr.injEq, true_or, or_true, and_self, q_sw]
        rw [show (5 : Int32) = nI 5 from rfl, nI_leI (by decide) (by omega), nI_1]
        refine ⟨fun q => absurd q (by omega), fun _ => ⟨fun q => absurd trivial q, fun _ => ?_⟩⟩
        have hf2 : fr (fun f i => f = 40 ∨ f = 61 ∨ f = 62 ∨ (f = 65 ∧ 1 ≤ i ∧ i ≤ 3) ∨ (69 ≤ f ∧ f ≤ 72)) (q_wI S 40 0 0 0) (q_wI S1 40 0 47 (nI i)) := fr.wI hk.2 (Or.inl rfl)
        refine ⟨_, _, (by decide : 4 < 20), c_mfewA l (g := none) (w := i) hO.1 (hM.fr hf2 (fun _ => by omega) (fun _ => by omega) (fun _ => by omega) (fun _ => by omega)) (by omega) gv.1 (fitW_of gv.2.1) (by decide) (hV.1.fr hf2 (by omega)) (by rw [q_I_wI, if_pos ⟨rfl, rfl, rfl⟩]) (fun c e => by cases e), fun v S2 h => ?_⟩
        obtain ⟨g1, g2, g3, g4⟩ := h
        cases g1
        have hk2 := hk.kq g4
        have ih := ih (i + 1) S2 (by omega) hk2
        cases hF : (fewA (aY a) i none (aV a).1).1 with
        | none =>
          rw [show spF a n i = false by unfold spF; rw [hF]] at hf
          exact ⟨fun _ => ih hf, fun q => absurd rfl q⟩
        | some F =>
          have hF2 := g3 F hF
          refine ⟨fun q => absurd q (i_ne1 (n := F) (by omega)), fun _ => ?_⟩
          rw [show oI (some F) = nI F from rfl, nI_ltI (by omega) (by omega)]
          refine ⟨fun q => ?_, fun q => ?_⟩
          · rw [show spF a n i = false by unfold spF; rw [hF]; exact decide_eq_false (by omega)] at hf
            exact ih hf
          · rw [show spF a n i = true by unfold spF; rw [hF]; exact decide_eq_true (by omega)] at hf
            exact k4b (i + 1) i S2 (by omega) (by omega) hk2 hf
    have kc : AT 3 [some (.inr (.inr (40, 0))), some (.inl (nI n)), none, none, none] [] (q_wI S 40 0 0 0) := by
      refine step 40 [(3, [true, true, true, true, true]), (4, [true, true, true, true, false]), (7, [true, true, true, true, false])] 3 _ _ _ ?_
      simp only [q_vcs, q_vcc, q_vl, q_vu, ↓reduceIte, Nat.reduceEqDiff, Bool.false_eq_true, q_isc, q_mk, q_msk, zbX11_spare, q_pad, q_ent, q_get, q_put, q_nl, q_w, List.cons_append, List.nil_append, q_aks, q_als, Nat.reduceAdd, Nat.reduceLeDiff, Nat.zero_le, true_and, and_true, Option.some.injEq, Sum.inl.injEq, Sum.inr.injEq, true_or, or_true, and_self, q_sw]
      exact k4 5 0 _ (by decide) ⟨fun _ _ => rfl, fr.rf⟩ rfl
    refine step 40 [(3, [true, true, true, true, true])] 0 _ _ _ ?_
    simp only [q_vcs, q_vcc, q_vl, q_vu, ↓reduceIte, Nat.reduceEqDiff, Bool.false_eq_true, q_isc, q_mk, q_msk, zbX11_spare, q_pad, q_ent, q_get, q_put, q_nl, q_w, List.cons_append, List.nil_append, q_aks, q_als, Nat.reduceAdd, Nat.reduceLeDiff, Nat.zero_le, true_and, and_true, Option.some.injEq, Sum.inl.injEq, Sum.inr.injEq, true_or, or_true, and_self, q_sw]
    refine q_u1 (by decide) (c_min l _ (nI n) 0 20) ?_
    rw [decide_eq_true h2]
    first | refine ⟨fun _ => ?_, fun q => absurd q (by decide)⟩ | refine ⟨fun q => absurd q (by decide), fun _ => ?_⟩
    refine q_u1 (by decide) (c_mbN l S (w := 1) (r := 1) (by decide) (by decide)) ?_
    first | refine ⟨fun _ => ?_, fun q => absurd q (by decide)⟩ | refine ⟨fun q => absurd q (by decide), fun _ => ?_⟩
    exact kc
  · rw [spI_1 h2]
    refine RA_i (d := 20) (by decide) hR ?_
    refine q_meth zoX11_spare q_fos (Nat.le_of_ble_eq_true rfl) ?_
    intro AT step
    refine step 40 [(3, [true, true, true, true, true])] 0 _ _ _ ?_
    simp only [q_vcs, q_vcc, q_vl, q_vu, ↓reduceIte, Nat.reduceEqDiff, Bool.false_eq_true, q_isc, q_mk, q_msk, zbX11_spare, q_pad, q_ent, q_get, q_put, q_nl, q_w, List.cons_append, List.nil_append, q_aks, q_als, Nat.reduceAdd, Nat.reduceLeDiff, Nat.zero_le, true_and, and_true, Option.some.injEq, Sum.inl.injEq, Sum.inr.injEq, true_or, or_true, and_self, q_sw]
    refine q_u1 (by decide) (c_min l _ y 0 20) ?_
    rw [decide_eq_false (fun z => h2 z)]
    first | refine ⟨fun _ => ?_, fun q => absurd q (by decide)⟩ | refine ⟨fun q => absurd q (by decide), fun _ => ?_⟩
    refine q_u1 (by decide) (c_mbY l S (w := 1) (r := 1) (by decide) (by decide)) ?_
    first | refine ⟨fun _ => ?_, fun q => absurd q (by decide)⟩ | refine ⟨fun q => absurd q (by decide), fun _ => ?_⟩
    first | rfl | exact ⟨rfl, rfl⟩ | trivial
