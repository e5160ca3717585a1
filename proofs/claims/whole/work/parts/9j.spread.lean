/-! The class's search: a pass -/
theorem CB_fin {V : Type} {E : V → Nat → V → Prop} {s : V} {G : V → Prop} {h : V → Nat} {lim : Nat} {cut : Bool} {q : Nat → V} {d m : Nat → Nat} {hd xb : Nat} (hc : CB E s G h lim cut q d m hd (hd + 1) xb (fun x v => E (q hd) x v)) (hx : cut = false ∨ ∀ i, i < hd + 1 → ∀ x v, E (q i) x v → d i + 1 + h v ≤ lim) (f : Nat) : An E s G none f := by
  obtain ⟨a1, a2, a3, a4, a5, a6, a7, a8⟩ := hc
  have cl : ∀ i, i < hd + 1 → ∀ x v, E (q i) x v → Mc9 G h lim cut q d m (hd + 1) i x v → Mc9 G h lim false q d m (hd + 1) i x v := fun i hi x v hv hm => by
    obtain ⟨b1, b2⟩ := hm
    refine ⟨b1, ?_⟩
    rcases b2 with b2 | b2
    · rcases hx with hx | hx
      · exact absurd (hx.symm.trans b2.1) (by decide)
      · have := hx i (by omega) x v hv
        omega
    · exact Or.inr b2
  exact CB_end (D := fun x v => E (q hd) x v) ⟨a1, a2, a3, a4, a5, a6, fun i hi x v hv => cl i (by omega) x v hv (a7 i hi x v hv), fun x v hv => cl hd (by omega) x v hv (a8 x v hv)⟩ (fun _ _ h => h) f
def SPp (S : qSt) (y : Nat) (Y : YD) (w : Nat) (g : Option Nat) (lim t : Nat) : Prop := SO S y (nI w) g ∧ YO S y Y ∧ TS S t ∧ q_I S 29 0 8 = nI lim ∧ q_I S 29 0 10 = -1 ∧ q_I S 29 0 11 = -1
theorem c_spread (l : Launch) (S : qSt) {y : Nat} {Y : YD} {w : Nat} {g : Option Nat} {P0 : Nat → List Nat} {lim t : Nat} (hY : y_ok Y) (hw4 : w ≤ 4) (hP : p_ok Y P0) (hw : fitW Y w P0) (hl : lim ≤ 20000) (hS : SPp S y Y w g lim t) (ht : t + 1 < 65536) (hg : ¬ rch (stl Y g P0) g = true) (hs : lst9 Y (stl Y g P0) g ≤ lim) : q_Met q_mt l 6 k_X5_spread 0 [.inr (.inr (29, 0)), .inr (.inl (lN (es (stl Y g P0))))] S (fun _ S' => fr Fsr S S' ∧ (FD Y w g P0 (t + 1) S' ∨ ∃ cut, SPp S' y Y w g lim (t + 1) ∧ q_I S' 29 0 9 = bI cut ∧ ((cut = false ∨ lim = 20000) → An (mvE Y w g) (stl Y g P0) (fun P => rch P g = true) none 0))) := by
  have hR0 := RSx_0 (w := w) g hP hw
  have hh : ∀ {q : Nat → Nat → List Nat} {d m : Nat → Nat} {hd n xb : Nat} {cut : Bool} {D : Nat → (Nat → List Nat) → Prop}, CBs Y w g P0 lim cut q d m hd n xb D → ∀ i, i < n → ∀ x v, mvE Y w g (q i) x v → d i + 1 + lst9 Y v g ≤ 20000 := fun hC i hi x v hv => by
    have a1 := CB_cap hY hP hw hC
    have a2 := hC.2.2.1 i hi
    have a3 := lst_le (RSx_mv hY (CB_rs hY hP hw hC hi) hv).1 g
    omega
  refine q_meth zoX5_spread q_fos (Nat.le_of_ble_eq_true rfl) ?_
  intro AT step
  have hF : ∀ S1 (i L mv : Int32), fr Fsr S S1 → FD Y w g P0 (t + 1) S1 → AT 2 [some (.inr (.inr (29, 0))), some (.inr (.inl (lN (es (stl Y g P0))))), none, some (.inl L), some (.inl mv), some (.inl i)] [] S1 := by
    intro S1 i L mv hf hD
    have hne : q_I S1 29 0 10 ≠ -1 := by
      obtain ⟨F, f, h1, _, h2, _⟩ := hD
      rw [h2]
      exact i_ne1 (by omega)
    refine step 40 [(2, [true, true, true, true, true, true])] 2 _ _ _ ?_
    simp only [q_vcs, q_vcc, q_vl, q_vu, ↓reduceIte, Nat.reduceEqDiff, Bool.false_eq_true, q_isc, q_mk, q_msk, zbX5_spread, q_pad, q_ent, q_get, q_put, q_nl, q_w, List.cons_append, List.nil_append, q_aks, q_als, Nat.reduceAdd, Nat.reduceLeDiff, Nat.zero_le, true_and, and_true, Option.some.injEq, Sum.inl.injEq, Sum.inr.injEq, true_or, or_true, and_self, q_sw]
    exact ⟨fun _ => ⟨hf, Or.inl hD⟩, fun _ => ⟨fun _ => ⟨hf, Or.inl hD⟩, fun _ => ⟨fun _ => ⟨hf, Or.inl hD⟩, fun h => absurd h hne⟩⟩⟩
  have hE : ∀ S1 (i n : Nat) (L mv : Int32) (cut : Bool) (q : Nat → Nat → List Nat) (d m : Nat → Nat), fr Fsr S S1 → SSt S1 y Y w g lim cut (t + 1) n q m → i + 1 = n → CBs Y w g P0 lim cut q d m i n 100 (fun x v => mvE Y w g (q i) x v) → AT 2 [some (.inr (.inr (29, 0))), some (.inr (.inl (lN (es (stl Y g P0))))), none, some (.inl L), some (.inl mv), some (.inl (nI (i + 1)))] [] S1 := by
    intro S1 i n L mv cut q d m hf hS1 hi hC
    have hcap := CB_cap hY hP hw hC
    have hS1' := hS1
    obtain ⟨s1, s2, s3, s4, s5, s6, s7, s8⟩ := hS1
    refine step 40 [(2, [true, true, true, true, true, true])] 2 _ _ _ ?_
    simp only [q_vcs, q_vcc, q_vl, q_vu, ↓reduceIte, Nat.reduceEqDiff, Bool.false_eq_true, q_isc, q_mk, q_msk, zbX5_spread, q_pad, q_ent, q_get, q_put, q_nl, q_w, List.cons_append, List.nil_append, q_aks, q_als, Nat.reduceAdd, Nat.reduceLeDiff, Nat.zero_le, true_and, and_true, Option.some.injEq, Sum.inl.injEq, Sum.inr.injEq, true_or, or_true, and_self, q_sw]
    rw [s3.1, nI_leI (by omega) (by omega)]
    refine ⟨fun _ => ⟨hf, Or.inr ⟨cut, ⟨s1, s2, s3.ts, s4, s6, s7⟩, s5, fun hx => ?_⟩⟩, fun h => absurd (by omega) h⟩
    subst hi
    refine CB_fin hC ?_ 0
    rcases hx with hx | hx
    · exact Or.inl hx
    · refine Or.inr fun j hj x v hv => ?_
      rw [hx]
      exact hh hC j hj x v hv
  have hL : ∀ r S1 (i n L D : Nat) (cut : Bool) (q : Nat → Nat → List Nat) (d m : Nat → Nat), i + r = 20000 → fr Fsr S S1 → SSt S1 y Y w g lim cut (t + 1) n q m → CBs Y w g P0 lim cut q d m i n 0 (fun _ _ => False) → LVL d i L n D → AT 2 [some (.inr (.inr (29, 0))), some (.inr (.inl (lN (es (stl Y g P0))))), none, some (.inl (nI L)), some (.inl (nI (D + 1))), some (.inl (nI i))] [] S1 := by
    intro r
    induction r with
    | zero =>
      intro S1 i n L D cut q d m hi hf hS1 hC hlv
      have hcap := CB_cap hY hP hw hC
      have := hC.2.1
      omega
    | succ r ih =>
      intro S1 i n L D cut q d m hi hf hS1 hC hlv
      have hcap := CB_cap hY hP hw hC
      have hin := hC.2.1
      have s3 := hS1.2.2.1
      have go : ∀ L' D', i < L' → LVL d i L' n D' → ∃ d' post, d' < 6 ∧ q_Met q_mt l d' k_X5_moveFrom 0 [.inr (.inr (29, 0)), .inl (nI i), .inl (nI (D' + 1))] S1 post ∧ ∀ S', post none S' → AT 2 [some (.inr (.inr (29, 0))), some (.inr (.inl (lN (es (stl Y g P0))))), none, some (.inl (nI L')), some (.inl (nI (D' + 1))), some (.inl (nI (i + 1)))] [] S' := by
        intro L' D' hiL hlv'
        have hdi : d i = D' := hlv'.2.2.2.2 i (Nat.le_refl _) hiL
        have hM := c_moveFrom l S1 hY hw4 hP hw hl hS1 hC
        rw [hdi] at hM
        refine ⟨_, _, (by decide : 5 < 6), hM, fun S2 h2 => ?_⟩
        rcases h2 with ⟨f2, h2⟩ | ⟨f2, cut', n', q', d', m', b1, b2, b3⟩
        · exact hF S2 _ _ _ (hf.tr f2) h2
        · obtain ⟨e1, e2, e3⟩ := b3.2.1 i hin
          have b2' : CBs Y w g P0 lim cut' q' d' m' i n' 100 (fun x v => mvE Y w g (q' i) x v) := CB_skip b2 (Nat.le_refl _) (fun x v h => by rw [e1] at h; exact h)
          by_cases z : i + 1 = n'
          · exact hE S2 i n' _ _ cut' q' d' m' (hf.tr f2) b1 z b2'
          · have := b2'.2.1
            exact ih S2 (i + 1) n' L' D' cut' q' d' m' (by omega) (hf.tr f2) b1 (CB_next b2' (fun _ _ h => h) (by omega)) (LVL_next hlv' hiL b3.1 (fun j hj => (b3.2.1 j hj).2.1) b3.2.2)
      refine step 40 [(2, [true, true, true, true, true, true])] 2 _ _ _ ?_
      simp only [q_vcs, q_vcc, q_vl, q_vu, ↓reduceIte, Nat.reduceEqDiff, Bool.false_eq_true, q_isc, q_mk, q_msk, zbX5_spread, q_pad, q_ent, q_get, q_put, q_nl, q_w, List.cons_append, List.nil_append, q_aks, q_als, Nat.reduceAdd, Nat.reduceLeDiff, Nat.zero_le, true_and, and_true, Option.some.injEq, Sum.inl.injEq, Sum.inr.injEq, true_or, or_true, and_self, q_sw]
      have hlb := hlv.1
      have hln := hlv.2.1
      rw [s3.1, hS1.2.2.2.2.2.1, nI_leI (by omega) (by omega), show (20000 : Int32) = nI 20000 from rfl, nI_leI (by decide) (by omega), nI_eq (by omega) (by omega), nI_1, nI_1]
      refine ⟨fun h => absurd h (by omega), fun _ => ⟨fun h => absurd h (by omega), fun _ => ⟨fun h => absurd rfl h, fun _ => ⟨fun hne => go L D (by omega) hlv, fun he => ?_⟩⟩⟩⟩
      subst he
      exact go n (D + 1) hin (LVL_up hlv)
  obtain ⟨s1, s2, ⟨t1, t2, v, t3⟩, s4, s6, s7⟩ := hS
  refine step 40 [(2, [true, true, true, true, true, true])] 0 _ _ _ ?_
  simp only [q_vcs, q_vcc, q_vl, q_vu, ↓reduceIte, Nat.reduceEqDiff, Bool.false_eq_true, q_isc, q_mk, q_msk, zbX5_spread, q_pad, q_ent, q_get, q_put, q_nl, q_w, List.cons_append, List.nil_append, q_aks, q_als, Nat.reduceAdd, Nat.reduceLeDiff, Nat.zero_le, true_and, and_true, Option.some.injEq, Sum.inl.injEq, Sum.inr.injEq, true_or, or_true, and_self, q_sw]
  have e4 : q_I (q_wI (q_wI (q_wI S 29 0 3 0) 29 0 9 0) 29 0 4 (q_I (q_wI (q_wI S 29 0 3 0) 29 0 9 0) 29 0 4 + 1)) 29 0 4 = nI (t + 1) := by
    simp [q_I_wI, t1, nI_1]
  have e5 : q_I (q_wI (q_wI S 29 0 3 0) 29 0 9 0) 29 0 4 + 1 = nI (t + 1) := by
    simp [q_I_wI, t1, nI_1]
  rw [e4, e5, show (65536 : Int32) = nI 65536 from rfl, nI_ltI (by omega) (by decide)]
  refine ⟨fun _ => ?_, fun h => absurd ht h⟩
  have hf0 : fr Fsr S (q_wI (q_wI (q_wI S 29 0 3 0) 29 0 9 0) 29 0 4 (nI (t + 1))) := fr.wI (fr.wI (fr.wI fr.rf (Or.inl rfl)) (Or.inl rfl)) (Or.inl rfl)
  have hT0 : HT (q_wI (q_wI (q_wI S 29 0 3 0) 29 0 9 0) 29 0 4 (nI (t + 1))) (t + 1) 0 (fun _ => stl Y g P0) (fun _ => 0) := by
    refine ⟨by simp [q_I_wI]; rfl, by simp [q_I_wI], by omega, by omega, fun i hi => by omega, v, fun _ => 0, fun s hs => ?_, TB_0 (fun s hs => ⟨(t3 s hs).2.1, by have := (t3 s hs).2.2; omega⟩)⟩
    simp only [q_I_wI, Nat.reduceEqDiff, false_and, if_false]
    exact (t3 s hs).1
  refine ⟨_, _, (by decide : 1 < 6), c_keepN l _ hT0 (by omega) (fun i hi => by omega) hR0.1.1 (x := 0) (by decide) (fun i hi => by omega), fun S1 h1 => ?_⟩
  obtain ⟨hT1, k1, k2, k3⟩ := h1
  rw [hT1.1]
  have hS1 : SSt S1 y Y w g lim false (t + 1) 1 (up (fun _ => stl Y g P0) 0 (stl Y g P0)) (up (fun _ => 0) 0 0) := by
    refine ⟨⟨by rw [k2]; exact s1.1, ?_, ?_, s1.2.2.2⟩, s2.fr (hf0.tr k3) (fun f h1 h2 q => by rcases q with q | q | q | q <;> omega), hT1, ?_, ?_, ?_, ?_, fun i hi => ?_⟩
    · rw [k1 6 (by decide)]; simp only [q_I_wI, Nat.reduceEqDiff, and_false, if_false]; exact s1.2.1
    · rw [k1 7 (by decide)]; simp only [q_I_wI, Nat.reduceEqDiff, and_false, if_false]; exact s1.2.2.1
    · rw [k1 8 (by decide)]; simp only [q_I_wI, Nat.reduceEqDiff, and_false, if_false]; exact s4
    · rw [k1 9 (by decide)]; simp [q_I_wI]; rfl
    · rw [k1 10 (by decide)]; simp only [q_I_wI, Nat.reduceEqDiff, and_false, if_false]; exact s6
    · rw [k1 11 (by decide)]; simp only [q_I_wI, Nat.reduceEqDiff, and_false, if_false]; exact s7
    · rw [show i = 0 by omega, up_eq]; decide
  exact hL 20000 S1 0 1 1 0 false _ (fun _ => 0) _ (by omega) (hf0.tr k3) hS1 (CB_0 up_eq rfl hg hs) ⟨by decide, by decide, fun j hj => Nat.le_refl _, fun j h1 h2 => by omega, fun j _ _ => rfl⟩
