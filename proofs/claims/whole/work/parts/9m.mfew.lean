/-! The reference's search -/
theorem c_mig (l : Launch) (S : qSt) {i : Nat} {Y : YD} {w : Nat} {g : Option Nat} {R P : Nat → List Nat} (hY : y_ok Y) (hM : MY S Y) (hP : RSx Y w g R P) (hR : RW1 S i P) (hg : ∀ c, g = some c → inn R c) : q_Met q_mt l 2 k_X11_isGoal 1 [.inr (.inr (40, 0)), .inr (.inr (65, i)), .inl (oI g)] S (fun r S' => r = some (.inl (bI (rch P g))) ∧ S' = S) := by
  have hin : ∀ c, g = some c → inn P c := fun c hc => hP.2.2.2.2.2 (by rw [hc]; simp) c (hg c hc)
  rw [rch_igl hP.1 hin]
  cases hgc : g with
  | none => exact c_misGoalN l S hY hM hP.1 hR (bs_lt hP.1.1)
  | some c =>
    obtain ⟨j, hj⟩ := inn_ex (hin c hgc)
    exact c_misGoal l S hY hM hP.1 hR hj
theorem BI_rs {Y : YD} (hY : y_ok Y) {w : Nat} {g : Option Nat} {P0 : Nat → List Nat} (hP : p_ok Y P0) (hw : fitW Y w P0) {q : Nat → Nat → List Nat} {d m : Nat → Nat} {hd tl : Nat} (h : Row (mvE Y w g) (stl Y g P0) q d m hd tl) {i : Nat} (hi : i < tl) : RSx Y w g P0 (q i) := RSx_wk hY hP hw (h.2.2.2.1 i hi)
theorem BI_cap {Y : YD} (hY : y_ok Y) {w : Nat} {g : Option Nat} {P0 : Nat → List Nat} (hP : p_ok Y P0) (hw : fitW Y w P0) {q : Nat → Nat → List Nat} {d m : Nat → Nat} {hd tl : Nat} (h : Row (mvE Y w g) (stl Y g P0) q d m hd tl) : tl ≤ 40319 :=
  pig9 (q := q) (c := plof) (fun i j hi hj e => h.2.2.2.2.2.1 i j hi hj (plof_u hY (BI_rs hY hP hw h hi) (BI_rs hY hP hw h hj) e)) (fun i hi => plof_lt (p_tot hY (BI_rs hY hP hw h hi).1))
def FFl (S1 : qSt) (best : Option Nat) (ff : Nat) : Prop := ∀ B, best = some B → B < 2 ^ 20 ∧ (0 < B → q_I S1 40 0 46 = nI ff ∧ ff < 128)
theorem FFl.cg {S1 S2 : qSt} {best : Option Nat} {ff : Nat} (h : FFl S1 best ff) (e : q_I S2 40 0 46 = q_I S1 40 0 46) : FFl S2 best ff := fun B hB => by
  rw [e]
  exact h B hB
def IJ (S : qSt) (Y : YD) (w : Nat) (g : Option Nat) (P0 P : Nat → List Nat) (hd : Nat) (best : Option Nat) (ff k : Nat) (S1 : qSt) (tl : Nat) (q : Nat → Nat → List Nat) (d m : Nat → Nat) : Prop := KQ S S1 ∧ MQu S1 tl q d m ∧ BP (mvE Y w g) (stl Y g P0) (fun P => rch P g = true) q d m hd tl best ff (fun x v => mvE Y w g P x v ∧ x / 10 * 3 + x % 10 < k) ∧ q hd = P ∧ RW1 S1 2 P ∧ FFl S1 best ff
theorem IJ.sk {S : qSt} {Y : YD} {w : Nat} {g : Option Nat} {P0 P : Nat → List Nat} {hd : Nat} {best : Option Nat} {ff k : Nat} {S1 : qSt} {tl : Nat} {q : Nat → Nat → List Nat} {d m : Nat → Nat} (h : IJ S Y w g P0 P hd best ff k S1 tl q d m) (hn : ∀ x v, mvE Y w g P x v → x / 10 * 3 + x % 10 = k → False) : IJ S Y w g P0 P hd best ff (k + 1) S1 tl q d m := by
  obtain ⟨a1, a2, a3, a4⟩ := h
  refine ⟨a1, a2, BP_mono a3 (fun x v hx => ⟨hx.1, ?_⟩), a4⟩
  have := hx.2
  exact Nat.lt_of_le_of_ne (by omega) (fun e => hn x v hx.1 e)
theorem IJ.m3 {S : qSt} {Y : YD} {w : Nat} {g : Option Nat} {P0 P : Nat → List Nat} {hd : Nat} {best : Option Nat} {ff k : Nat} {S1 S2 : qSt} {tl : Nat} {q : Nat → Nat → List Nat} {d m : Nat → Nat} (h : IJ S Y w g P0 P hd best ff k S1 tl q d m) (hf : fr (Fm 3) S1 S2) : IJ S Y w g P0 P hd best ff k S2 tl q d m := by
  obtain ⟨a1, a2, a3, a4, a5, a6⟩ := h
  exact ⟨a1.m (Or.inr rfl) hf, a2.m hf, a3, a4, a5.fr hf (by decide), a6.cg (by rw [(hf 40 0 (by decide)).1])⟩
def FJ (S : qSt) (Y : YD) (w : Nat) (g : Option Nat) (P0 : Nat → List Nat) (hd : Nat) (best : Option Nat) (ff : Nat) (S1 : qSt) (tl : Nat) (q : Nat → Nat → List Nat) (d m : Nat → Nat) : Prop := KQ S S1 ∧ MQu S1 tl q d m ∧ BI (mvE Y w g) (stl Y g P0) (fun P => rch P g = true) q d m hd tl best ff ∧ FFl S1 best ff
theorem c_mfewest (l : Launch) (S : qSt) {i0 : Nat} {Y : YD} {w : Nat} {g : Option Nat} {P0 : Nat → List Nat} (hY : y_ok Y) (hw4 : w ≤ 4) (hM : MY S Y) (hP : p_ok Y P0) (hw : fitW Y w P0) (hi0 : i0 < 2) (hR : RW1 S i0 P0) (hwd : q_I S 40 0 47 = nI w) (hgc : ∀ c, g = some c → inn P0 c) : q_Met q_mt l 4 k_X11_fewest 1 [.inr (.inr (40, 0)), .inr (.inr (65, i0)), .inl (oI g)] S (fun v S' => ∃ r f, v = some (.inl (oI r)) ∧ Ans Y w g P0 r f ∧ (∀ F, r = some (F + 1) → q_I S' 40 0 46 = nI f) ∧ (∀ F, r = some F → F < 2 ^ 20) ∧ KQ S S') := by
  have h3 := hY.1
  have h6Y := hY.2.1
  have hR0 := RSx_0 (w := w) g hP hw
  have tot6 : ∀ {P}, RSx Y w g P0 P → tot P ≤ 6 := fun h => p_tot hY h.1
  refine q_meth zoX11_fewest q_fos (Nat.le_of_ble_eq_true rfl) ?_
  intro AT step
  have h16 : ∀ (P : Nat → List Nat) (hd : Nat) (best : Option Nat) (ff a b f : Nat) S1 tl q d m, a < Y 0 0 → b < Y 0 0 → (P a).head? = some f → mvE Y w g P (10 * a + b) (stl Y g (mvc P a b f)) → IJ S Y w g P0 P hd best ff (3 * a + b) S1 tl q d m → (∀ S2 tl q d m, IJ S Y w g P0 P hd best ff (3 * a + b + 1) S2 tl q d m → AT 9 [some (.inr (.inr (40, 0))), some (.inr (.inr (65, i0))), some (.inl (oI g)), some (.inl (nI (hd + 1))), some (.inl (nI tl)), some (.inl (oI best)), some (.inl (nI (numS P))), some (.inl (nI (plof P))), some (.inl (nI (3 * a + b + 1))), none, none, none, none, none, none] [] S2) → AT 16 [some (.inr (.inr (40, 0))), some (.inr (.inr (65, i0))), some (.inl (oI g)), some (.inl (nI (hd + 1))), some (.inl (nI tl)), some (.inl (oI best)), some (.inl (nI (numS P))), some (.inl (nI (plof P))), some (.inl (nI (3 * a + b))), some (.inl (nI a)), some (.inl (nI b)), none, some (.inl (nI (numS (stl Y g (mvc P a b f))))), some (.inl (nI (plof (stl Y g (mvc P a b f))))), none] [.inl (nI (by9 d m hd (10 * a + b)))] S1 := by
    intro P hd best ff a b f S1 tl q d m ha hb hf hE hJ hK
    have hJ0 := hJ
    obtain ⟨j1, j2, j3, j4, j5, j6⟩ := hJ
    subst j4
    have hrow := j3.1.1
    have hhd := j3.2.1
    have hcap := BI_cap hY hP hw hrow
    have hPs := BI_rs hY hP hw hrow hhd
    have hQs := RSx_mv hY hPs hE
    have hQl := plof_lt (tot6 hQs)
    have hPl := plof_lt (tot6 hPs)
    obtain ⟨c1, c2, c3, c4⟩ := j2.2.1 hd hhd
    have hb9 : by9 d m hd (10 * a + b) < 128 := by
      unfold by9
      by_cases z : d hd = 0
      · rw [if_pos z]; omega
      · rw [if_neg z]; exact (c3 (by omega)).2
    have hmono : ∀ (q' : Nat → Nat → List Nat) (d' m' : Nat → Nat) (tl' : Nat), BP (mvE Y w g) (stl Y g P0) (fun P => rch P g = true) q' d' m' hd tl' best ff (fun y u => (mvE Y w g (q hd) y u ∧ y / 10 * 3 + y % 10 < 3 * a + b) ∨ (y = 10 * a + b ∧ u = stl Y g (mvc (q hd) a b f))) → BP (mvE Y w g) (stl Y g P0) (fun P => rch P g = true) q' d' m' hd tl' best ff (fun x v => mvE Y w g (q hd) x v ∧ x / 10 * 3 + x % 10 < 3 * a + b + 1) := fun q' d' m' tl' hB => BP_mono hB (fun x v hx => by
      obtain ⟨a', b', k1, k2, k3, _⟩ := mvE_rg hY hx.1
      have hx2 := hx.2
      by_cases e : x = 10 * a + b
      · refine Or.inr ⟨e, ?_⟩
        have hx1 := hx.1
        rw [e] at hx1
        exact (mvE_u hY ha hb hf hx1).2.2
      · refine Or.inl ⟨hx.1, ?_⟩
        have : x / 10 = a' ∧ x % 10 = b' := by omega
        rw [this.1, this.2] at hx2 ⊢
        have : ¬ (a' = a ∧ b' = b) := fun z => e (by rw [k3, z.1, z.2])
        omega)
    refine step 40 [(1, [true, true, true, true, false, false, false, false, false, false, false, false, false, false, false]), (3, [true, true, true, false, false, false, false, false, false, false, false, false, false, false, false]), (4, [true, true, true, true, true, true, false, false, false, false, false, false, false, false, false]), (5, [true, true, true, true, true, true, true, true, false, false, false, false, false, false, false]), (9, [true, true, true, true, true, true, true, true, true, false, false, false, false, false, false]), (13, [true, true, true, true, true, true, true, true, true, true, true, true, false, false, false]), (14, [true, true, true, true, true, true, true, true, true, true, true, false, false, false, false]), (16, [true, true, true, true, true, true, true, true, true, true, true, false, true, true, false])] 16 _ _ _ ?_
    simp only [q_vcs, q_vcc, q_vl, q_vu, ↓reduceIte, Nat.reduceEqDiff, Bool.false_eq_true, q_isc, q_mk, q_msk, zbX11_fewest, q_pad, q_ent, q_get, q_put, q_nl, q_w, List.cons_append, List.nil_append, q_aks, q_als, Nat.reduceAdd, Nat.reduceLeDiff, Nat.zero_le, true_and, and_true, Option.some.injEq, Sum.inl.injEq, Sum.inr.injEq, true_or, or_true, and_self, q_sw]
    rw [i_cl (by omega), i_cl (by omega), i_cl (by omega), c2, nI_1, nI_1, nI_1]
    have in1 : vp_in (nI (plof (stl Y g (mvc (q hd) a b f)))) 40500 := i_in (by omega) (by decide)
    have in2 : vp_in (nI (plof (q hd))) 40500 := i_in (by omega) (by decide)
    by_cases e : ∃ j, j < tl ∧ q j = stl Y g (mvc (q hd) a b f)
    · obtain ⟨j, hj, ej⟩ := e
      obtain ⟨g1, g2, g3, g4⟩ := j2.2.1 j hj
      rw [ej] at g1 g2 g3
      rw [g2, nI_eq (by omega) (by omega)]
      refine ⟨in1, fun _ => ⟨in1, in2, fun hne => ?_, fun he => ⟨in1, ?_⟩⟩, fun h => absurd h (i_ne1 (by omega))⟩
      · refine hK S1 tl q d m ⟨j1, j2, hmono q d m tl ?_, rfl, j5, j6⟩
        have := BP_old (x := 10 * a + b) j3 hj hne
        rw [ej] at this
        exact this
      · have g5 := g3 (by omega)
        rw [g5.1]
        refine q_u1 (by decide) (c_mless l S1 (nI (m j)) (nI (by9 d m hd (10 * a + b)))) ?_
        rw [i_min (a := by9 d m hd (10 * a + b)) (b := m j) (by omega) (by omega), Nat.min_comm]
        have hlow := BP_low j3 (by rw [ej]; exact hE) hj he
        rw [ej] at hlow
        refine ⟨in1, hK _ tl q d _ ⟨j1.w (Or.inr (Or.inr rfl)), ?_, hmono q d _ tl hlow, rfl, ?_, j6.cg ?_⟩⟩
        · have := MQu_low (b := min (m j) (by9 d m hd (10 * a + b))) (j0 := j) j2 (fun i hi ei => hrow.2.2.2.2.2.1 i j hi hj (plof_u hY (BI_rs hY hP hw hrow hi) (BI_rs hY hP hw hrow hj) ei)) (by omega)
          rw [ej] at this
          exact this
        · exact j5.fr (F := fun f _ => f = 71) (fr.wI fr.rf rfl) (by decide)
        · rw [q_I_wI, if_neg (by omega)]
    · have hne : ∀ j, j < tl → q j ≠ stl Y g (mvc (q hd) a b f) := fun j hj ej => e ⟨j, hj, ej⟩
      have hpn : ∀ j, j < tl → plof (q j) ≠ plof (stl Y g (mvc (q hd) a b f)) := fun j hj ej => hne j hj (plof_u hY (BI_rs hY hP hw hrow hj) hQs ej)
      have hm1 := j2.2.2 (plof (stl Y g (mvc (q hd) a b f))) (by omega) hpn
      rw [hm1]
      have hpush := BP_push j3 hE hne
      have hcap2 := BI_cap hY hP hw hpush.1.1
      refine ⟨in1, fun h => absurd rfl h, fun _ => ⟨in2, in1, in1, i_in (by omega) (by decide), hK _ (tl + 1) _ _ _ ⟨((j1.w (Or.inr (Or.inl rfl))).w (Or.inr (Or.inr rfl))).w (Or.inl rfl), MQu_push j2 hpn hhd hb9 hcap2, hmono _ _ _ _ hpush, up_ne (by omega), ?_, j6.cg ?_⟩⟩⟩
      · exact j5.fr (F := fun f _ => f = 69 ∨ f = 70 ∨ f = 71) (fr.wI (fr.wI (fr.wI fr.rf (Or.inr (Or.inl rfl))) (Or.inr (Or.inr rfl))) (Or.inl rfl)) (by decide)
      · rw [q_I_wI, if_neg (by omega), q_I_wI, if_neg (by omega), q_I_wI, if_neg (by omega)]
  have h14 : ∀ (P : Nat → List Nat) (hd : Nat) (best : Option Nat) (ff a b f : Nat) S1 tl q d m, a < Y 0 0 → b < Y 0 0 → (P a).head? = some f → mvE Y w g P (10 * a + b) (stl Y g (mvc P a b f)) → IJ S Y w g P0 P hd best ff (3 * a + b) S1 tl q d m → RW1 S1 3 (stl Y g (mvc P a b f)) → (∀ S2 tl q d m, IJ S Y w g P0 P hd best ff (3 * a + b + 1) S2 tl q d m → AT 9 [some (.inr (.inr (40, 0))), some (.inr (.inr (65, i0))), some (.inl (oI g)), some (.inl (nI (hd + 1))), some (.inl (nI tl)), some (.inl (oI best)), some (.inl (nI (numS P))), some (.inl (nI (plof P))), some (.inl (nI (3 * a + b + 1))), none, none, none, none, none, none] [] S2) → AT 14 [some (.inr (.inr (40, 0))), some (.inr (.inr (65, i0))), some (.inl (oI g)), some (.inl (nI (hd + 1))), some (.inl (nI tl)), some (.inl (oI best)), some (.inl (nI (numS P))), some (.inl (nI (plof P))), some (.inl (nI (3 * a + b))), some (.inl (nI a)), some (.inl (nI b)), none, none, none, none] [] S1 := by
    intro P hd best ff a b f S1 tl q d m ha hb hf hE hJ hQ3 hK
    have hJ0 := hJ
    obtain ⟨j1, j2, j3, j4, j5, j6⟩ := hJ
    subst j4
    have hrow := j3.1.1
    have hhd := j3.2.1
    have hPs := BI_rs hY hP hw hrow hhd
    have hQs := RSx_mv hY hPs hE
    have hPl := plof_lt (tot6 hPs)
    obtain ⟨c1, c2, c3, c4⟩ := j2.2.1 hd hhd
    have hcap := BI_cap hY hP hw hrow
    have k16 := h16 (q hd) hd best ff a b f S1 tl q d m ha hb hf hE hJ0 hK
    refine step 40 [(1, [true, true, true, true, false, false, false, false, false, false, false, false, false, false, false]), (3, [true, true, true, false, false, false, false, false, false, false, false, false, false, false, false]), (4, [true, true, true, true, true, true, false, false, false, false, false, false, false, false, false]), (5, [true, true, true, true, true, true, true, true, false, false, false, false, false, false, false]), (9, [true, true, true, true, true, true, true, true, true, false, false, false, false, false, false]), (13, [true, true, true, true, true, true, true, true, true, true, true, true, false, false, false]), (14, [true, true, true, true, true, true, true, true, true, true, true, false, false, false, false]), (16, [true, true, true, true, true, true, true, true, true, true, true, false, true, true, false])] 14 _ _ _ ?_
    simp only [q_vcs, q_vcc, q_vl, q_vu, ↓reduceIte, Nat.reduceEqDiff, Bool.false_eq_true, q_isc, q_mk, q_msk, zbX11_fewest, q_pad, q_ent, q_get, q_put, q_nl, q_w, List.cons_append, List.nil_append, q_aks, q_als, Nat.reduceAdd, Nat.reduceLeDiff, Nat.zero_le, true_and, and_true, Option.some.injEq, Sum.inl.injEq, Sum.inr.injEq, true_or, or_true, and_self, q_sw]
    refine q_u1 (by decide) (c_masNumber l S1 hQs.1.1 (tot6 hQs) hQ3) ?_
    refine q_u1 (by decide) (c_mplaceOf l S1 hQs.1.1 (tot6 hQs)) ?_
    rw [i_cl (by omega), c2, show (0 : Int32) = nI 0 from rfl, nI_eq (by omega) (by decide), show (10 : Int32) = nI 10 from rfl, pk_mul, nI_add]
    have in2 : vp_in (nI (plof (q hd))) 40500 := i_in (by omega) (by decide)
    refine ⟨in2, fun h => ⟨in2, ?_⟩, fun h => ?_⟩
    · rw [(c3 (by omega)).1]
      have : by9 d m hd (10 * a + b) = m hd := by unfold by9; rw [if_neg h]
      rw [this] at k16
      exact k16
    · have : by9 d m hd (10 * a + b) = 10 * a + b := by unfold by9; rw [if_pos h]
      rw [this] at k16
      exact k16
  have h13 : ∀ (P : Nat → List Nat) (hd : Nat) (best : Option Nat) (ff a b f : Nat) S1 tl q d m, a < Y 0 0 → b < Y 0 0 → a ≠ b → (P a).head? = some f → mvE Y w g P (10 * a + b) (stl Y g (mvc P a b f)) → IJ S Y w g P0 P hd best ff (3 * a + b) S1 tl q d m → (∀ S2 tl q d m, IJ S Y w g P0 P hd best ff (3 * a + b + 1) S2 tl q d m → AT 9 [some (.inr (.inr (40, 0))), some (.inr (.inr (65, i0))), some (.inl (oI g)), some (.inl (nI (hd + 1))), some (.inl (nI tl)), some (.inl (oI best)), some (.inl (nI (numS P))), some (.inl (nI (plof P))), some (.inl (nI (3 * a + b + 1))), none, none, none, none, none, none] [] S2) → AT 13 [some (.inr (.inr (40, 0))), some (.inr (.inr (65, i0))), some (.inl (oI g)), some (.inl (nI (hd + 1))), some (.inl (nI tl)), some (.inl (oI best)), some (.inl (nI (numS P))), some (.inl (nI (plof P))), some (.inl (nI (3 * a + b))), some (.inl (nI a)), some (.inl (nI b)), some (.inl (nI f)), none, none, none] [] S1 := by
    intro P hd best ff a b f S1 tl q d m ha hb hab hf hE hJ hK
    have hJ0 := hJ
    obtain ⟨j1, j2, j3, j4, j5, j6⟩ := hJ
    have hrow := j3.1.1
    have hhd := j3.2.1
    have hPs := BI_rs hY hP hw hrow hhd
    rw [j4] at hPs
    have hp := hPs.1
    have hst := hp.1
    have ha3 : a < 3 := by omega
    have hb3 : b < 3 := by omega
    have hmv := p_mv hY hp ha3 hb hf
    have hne := head_ne hf
    have hlen : 0 < (P a).length := by
      cases hr : P a with
      | nil => exact absurd hr hne
      | cons _ _ => simp
    have h6a := (st_row hst ha3).1
    refine step 40 [(1, [true, true, true, true, false, false, false, false, false, false, false, false, false, false, false]), (3, [true, true, true, false, false, false, false, false, false, false, false, false, false, false, false]), (4, [true, true, true, true, true, true, false, false, false, false, false, false, false, false, false]), (5, [true, true, true, true, true, true, true, true, false, false, false, false, false, false, false]), (9, [true, true, true, true, true, true, true, true, true, false, false, false, false, false, false]), (13, [true, true, true, true, true, true, true, true, true, true, true, true, false, false, false]), (14, [true, true, true, true, true, true, true, true, true, true, true, false, false, false, false]), (16, [true, true, true, true, true, true, true, true, true, true, true, false, true, true, false])] 13 _ _ _ ?_
    simp only [q_vcs, q_vcc, q_vl, q_vu, ↓reduceIte, Nat.reduceEqDiff, Bool.false_eq_true, q_isc, q_mk, q_msk, zbX11_fewest, q_pad, q_ent, q_get, q_put, q_nl, q_w, List.cons_append, List.nil_append, q_aks, q_als, Nat.reduceAdd, Nat.reduceLeDiff, Nat.zero_le, true_and, and_true, Option.some.injEq, Sum.inl.injEq, Sum.inr.injEq, true_or, or_true, and_self, q_sw]
    refine ⟨_, _, (by decide : 0 < 4), c_mcopies l S1 (i := 2) (k := 3) (by decide), fun S2 h2 => ?_⟩
    have r2 := RW1_cp hst j5 h2.1
    rw [i_0, i_cl (by omega), (r2 a ha3).1]
    have e : nI (P a).length - 1 = nI ((P a).length - 1) := by
      have := i_m1 ((P a).length - 1)
      rwa [Nat.sub_add_cancel hlen] at this
    rw [e]
    have r3 := rw1_out hst r2 ha3 hne
    have f3 : fr (Fm 3) S1 (q_wI S2 65 3 a (nI ((P a).length - 1))) := fr.wI h2.2 ⟨rfl, rfl⟩
    refine ⟨i_in (by omega) (by decide), i_in (by omega) (by decide), ?_⟩
    refine ⟨_, _, (by decide : 0 < 4), c_mcomesTo l _ (c := f) hmv.2.2.1 r3 hb3 hmv.2.1, fun S4 h4 => ?_⟩
    have r4 : RW1 S4 3 (mvc P a b f) := h4.1
    have f4 := f3.tr h4.2.2
    have fin := fun S5 (f5 : fr (Fm 3) S1 S5) (r5 : RW1 S5 3 (stl Y g (mvc P a b f))) => h14 P hd best ff a b f S5 tl q d m ha hb hf hE (hJ0.m3 f5) r5 hK
    cases hg : g with
    | some c =>
      rw [hg] at fin
      have hc : c < 6 := by have := inn_lt hP (hgc c hg); omega
      exact ⟨fun _ => fin S4 f4 r4, fun h => absurd h (i_ne1 (n := c) (by omega))⟩
    | none =>
      rw [hg] at fin
      refine ⟨fun h => absurd rfl h, fun _ => ?_⟩
      refine ⟨_, _, (by decide : 3 < 4), c_mleaveAll l S4 hY ((hJ0.m3 f4).1.my hM) hmv.1 r4, fun S5 h5 => ?_⟩
      exact fin S5 (f4.tr h5.2.2) h5.1
  have h9 : ∀ (P : Nat → List Nat) (hd : Nat) (best : Option Nat) (ff : Nat), ¬ rch P g = true → (∀ S1 tl q d m, FJ S Y w g P0 (hd + 1) best ff S1 tl q d m → AT 4 [some (.inr (.inr (40, 0))), some (.inr (.inr (65, i0))), some (.inl (oI g)), some (.inl (nI (hd + 1))), some (.inl (nI tl)), some (.inl (oI best)), none, none, none, none, none, none, none, none, none] [] S1) → ∀ r k S1 tl q d m, k + r = 9 → IJ S Y w g P0 P hd best ff k S1 tl q d m → AT 9 [some (.inr (.inr (40, 0))), some (.inr (.inr (65, i0))), some (.inl (oI g)), some (.inl (nI (hd + 1))), some (.inl (nI tl)), some (.inl (oI best)), some (.inl (nI (numS P))), some (.inl (nI (plof P))), some (.inl (nI k)), none, none, none, none, none, none] [] S1 := by
    intro P hd best ff hng hK r
    induction r with
    | zero =>
      intro k S1 tl q d m hk hJ
      obtain ⟨j1, j2, j3, j4, j5, j6⟩ := hJ
      refine step 40 [(1, [true, true, true, true, false, false, false, false, false, false, false, false, false, false, false]), (3, [true, true, true, false, false, false, false, false, false, false, false, false, false, false, false]), (4, [true, true, true, true, true, true, false, false, false, false, false, false, false, false, false]), (5, [true, true, true, true, true, true, true, true, false, false, false, false, false, false, false]), (9, [true, true, true, true, true, true, true, true, true, false, false, false, false, false, false]), (13, [true, true, true, true, true, true, true, true, true, true, true, true, false, false, false]), (14, [true, true, true, true, true, true, true, true, true, true, true, false, false, false, false]), (16, [true, true, true, true, true, true, true, true, true, true, true, false, true, true, false])] 9 _ _ _ ?_
      simp only [q_vcs, q_vcc, q_vl, q_vu, ↓reduceIte, Nat.reduceEqDiff, Bool.false_eq_true, q_isc, q_mk, q_msk, zbX11_fewest, q_pad, q_ent, q_get, q_put, q_nl, q_w, List.cons_append, List.nil_append, q_aks, q_als, Nat.reduceAdd, Nat.reduceLeDiff, Nat.zero_le, true_and, and_true, Option.some.injEq, Sum.inl.injEq, Sum.inr.injEq, true_or, or_true, and_self, q_sw]
      rw [show (9 : Int32) = nI 9 from rfl, nI_leI (by decide) (by omega)]
      refine ⟨fun _ => hK S1 tl q d m ⟨j1, j2, BP_end j3 (by rw [j4]; exact hng) (fun x v hx => ?_), j6⟩, fun h => absurd (by omega) h⟩
      rw [j4] at hx
      obtain ⟨a', b', k1, k2, k3, _⟩ := mvE_rg hY hx
      exact ⟨hx, by omega⟩
    | succ r ih =>
      intro k S1 tl q d m hk hJ
      have hJ0 := hJ
      obtain ⟨j1, j2, j3, j4, j5, j6⟩ := hJ
      have hrow := j3.1.1
      have hhd := j3.2.1
      have hPs := BI_rs hY hP hw hrow hhd
      rw [j4] at hPs
      have hp := hPs.1
      have hst := hp.1
      have hM1 := j1.my hM
      obtain ⟨a, b, hk1, ha3, hb3⟩ : ∃ a b, k = 3 * a + b ∧ a < 3 ∧ b < 3 := ⟨k / 3, k % 3, by omega, by omega, by omega⟩
      subst hk1
      have skip : (∀ x v, mvE Y w g P x v → x / 10 * 3 + x % 10 = 3 * a + b → False) → AT 9 [some (.inr (.inr (40, 0))), some (.inr (.inr (65, i0))), some (.inl (oI g)), some (.inl (nI (hd + 1))), some (.inl (nI tl)), some (.inl (oI best)), some (.inl (nI (numS P))), some (.inl (nI (plof P))), some (.inl (nI (3 * a + b + 1))), none, none, none, none, none, none] [] S1 := fun hn => ih (3 * a + b + 1) S1 tl q d m (by omega) (hJ0.sk hn)
      have hrg : ∀ x v, mvE Y w g P x v → x / 10 * 3 + x % 10 = 3 * a + b → x = 10 * a + b ∧ a < Y 0 0 ∧ b < Y 0 0 ∧ a ≠ b ∧ P a ≠ [] := fun x v hx e => by
        obtain ⟨a', b', f, m1, m2, m3, m4, m5, m6, m7⟩ := hx
        have hxa : x / 10 = a' ∧ x % 10 = b' := by omega
        rw [hxa.1, hxa.2] at e
        have e1 : a = a' := by omega
        have e2 : b = b' := by omega
        rw [e1, e2]
        exact ⟨m6, m1, m2, m3, head_ne m4⟩
      refine step 40 [(1, [true, true, true, true, false, false, false, false, false, false, false, false, false, false, false]), (3, [true, true, true, false, false, false, false, false, false, false, false, false, false, false, false]), (4, [true, true, true, true, true, true, false, false, false, false, false, false, false, false, false]), (5, [true, true, true, true, true, true, true, true, false, false, false, false, false, false, false]), (9, [true, true, true, true, true, true, true, true, true, false, false, false, false, false, false]), (13, [true, true, true, true, true, true, true, true, true, true, true, true, false, false, false]), (14, [true, true, true, true, true, true, true, true, true, true, true, false, false, false, false]), (16, [true, true, true, true, true, true, true, true, true, true, true, false, true, true, false])] 9 _ _ _ ?_
      simp only [q_vcs, q_vcc, q_vl, q_vu, ↓reduceIte, Nat.reduceEqDiff, Bool.false_eq_true, q_isc, q_mk, q_msk, zbX11_fewest, q_pad, q_ent, q_get, q_put, q_nl, q_w, List.cons_append, List.nil_append, q_aks, q_als, Nat.reduceAdd, Nat.reduceLeDiff, Nat.zero_le, true_and, and_true, Option.some.injEq, Sum.inl.injEq, Sum.inr.injEq, true_or, or_true, and_self, q_sw]
      have t0 : q_I S1 44 0 (Int32.toNatClampNeg 0) = nI (Y 0 0) := hM1.1
      rw [show (9 : Int32) = nI 9 from rfl, nI_leI (by decide) (by omega), show (3 : Int32) = nI 3 from rfl, i_rem (by omega) (by decide) (by decide), i_div (by omega) (by decide) (by decide), show (3 * a + b) / 3 = a by omega, show (3 * a + b) % 3 = b by omega, t0, nI_eq (by omega) (by omega), nI_leI (by omega) (by omega), nI_ltI (by omega) (by omega), nI_1]
      refine ⟨fun h => absurd h (by omega), fun _ => ⟨by decide, by decide, fun e => skip (fun x v hx q => (hrg x v hx q).2.2.2.1 e), fun hab => ⟨i_in (k := 0) (by decide) (by decide), fun e => skip (fun x v hx q => by have := (hrg x v hx q).2.1; omega), fun hna => ⟨i_in (k := 0) (by decide) (by decide), fun hb => ?_, fun e => skip (fun x v hx q => e (hrg x v hx q).2.2.1)⟩⟩⟩⟩
      have ha : a < Y 0 0 := by omega
      refine q_u1 (by decide) (c_mfrontOf l S1 hst j5 ha3) ?_
      cases hf : (P a).head? with
      | none =>
        refine ⟨fun _ => skip (fun x v hx q => ?_), fun h => absurd rfl h⟩
        have := (hrg x v hx q).2.2.2.2
        cases hr : P a with
        | nil => exact this hr
        | cons _ _ => rw [hr] at hf; cases hf
      | some f =>
        have hfm := List.mem_of_mem_head? hf
        have hfY := hp.2.2.1 a f hfm
        have hlg : lgt Y f = Y 4 f := if_pos hfY
        have hl2 := lgt_le hY f
        have hyf := hM1.2.2.2.2 f hfY
        refine ⟨fun h => absurd h (i_ne1 (n := f) (by omega)), fun _ => ?_⟩
        refine q_u1 (by decide) (c_mroomOf l S1 hY hM1 hp j5 hb) ?_
        have t4 : q_I S1 52 f (Int32.toNatClampNeg 0) = nI (lgt Y f) := by rw [hlg]; exact hyf.1
        rw [show oI (some f) = nI f from rfl, i_cl (by omega), t4, j1.2 47 (by decide), hwd]
        have key : ∀ z : Int32, z = rmW Y (nI w) P b → (nI (lgt Y f) ≤ z → AT 13 [some (.inr (.inr (40, 0))), some (.inr (.inr (65, i0))), some (.inl (oI g)), some (.inl (nI (hd + 1))), some (.inl (nI tl)), some (.inl (oI best)), some (.inl (nI (numS P))), some (.inl (nI (plof P))), some (.inl (nI (3 * a + b))), some (.inl (nI a)), some (.inl (nI b)), some (.inl (nI f)), none, none, none] [] S1) ∧ (¬ nI (lgt Y f) ≤ z → AT 9 [some (.inr (.inr (40, 0))), some (.inr (.inr (65, i0))), some (.inl (oI g)), some (.inl (nI (hd + 1))), some (.inl (nI tl)), some (.inl (oI best)), some (.inl (nI (numS P))), some (.inl (nI (plof P))), some (.inl (nI (3 * a + b + 1))), none, none, none, none, none, none] [] S1) := fun z hz => by
          rw [hz, rmW_le hY hw4 hst hb3 (by omega)]
          refine ⟨fun hr => ?_, fun hr => skip (fun x v hx q => ?_)⟩
          · exact h13 P hd best ff a b f S1 tl q d m ha hb hab hf ⟨a, b, f, ha, hb, hab, hf, hr, rfl, rfl⟩ hJ0 (fun S2 tl q d m h => ih (3 * a + b + 1) S2 tl q d m (by omega) h)
          · have e := (hrg x v hx q).1
            rw [e] at hx
            exact hr (mvE_u hY ha hb hf hx).2.1
        have vi : vp_in (nI f) 6 := i_in (by omega) (by decide)
        have eb0 : nI b = 0 ↔ b = 0 := by
          rw [show (0 : Int32) = nI 0 from rfl, nI_eq (by omega) (by decide)]
        rw [eb0]
        refine ⟨fun h => ⟨vi, i_in (k := 0) (by decide) (by decide), key _ ?_⟩, fun h => ⟨vi, i_in (k := 0) (by decide) (by decide), key _ ?_⟩⟩
        · unfold rmW; rw [if_neg h]
        · unfold rmW; rw [if_pos h]
  have h5 : ∀ (hd : Nat) (best : Option Nat) (ff : Nat) S1 tl q d m, FJ S Y w g P0 hd best ff S1 tl q d m → hd < tl → (∀ B, best = some B → d hd ≤ B) → (∀ best ff S1 tl q d m, FJ S Y w g P0 (hd + 1) best ff S1 tl q d m → AT 4 [some (.inr (.inr (40, 0))), some (.inr (.inr (65, i0))), some (.inl (oI g)), some (.inl (nI (hd + 1))), some (.inl (nI tl)), some (.inl (oI best)), none, none, none, none, none, none, none, none, none] [] S1) → AT 5 [some (.inr (.inr (40, 0))), some (.inr (.inr (65, i0))), some (.inl (oI g)), some (.inl (nI (hd + 1))), some (.inl (nI tl)), some (.inl (oI best)), some (.inl (nI (numS (q hd)))), some (.inl (nI (plof (q hd)))), none, none, none, none, none, none, none] [] S1 := by
    intro hd best ff S1 tl q d m hJ hhd hB hK
    obtain ⟨j1, j2, j3, j6⟩ := hJ
    have hrow := j3.1
    have hPs := BI_rs hY hP hw hrow hhd
    have hPl := plof_lt (tot6 hPs)
    obtain ⟨c1, c2, c3, c4⟩ := j2.2.1 hd hhd
    have hcap := BI_cap hY hP hw hrow
    have in2 : vp_in (nI (plof (q hd))) 40500 := i_in (by omega) (by decide)
    refine step 40 [(1, [true, true, true, true, false, false, false, false, false, false, false, false, false, false, false]), (3, [true, true, true, false, false, false, false, false, false, false, false, false, false, false, false]), (4, [true, true, true, true, true, true, false, false, false, false, false, false, false, false, false]), (5, [true, true, true, true, true, true, true, true, false, false, false, false, false, false, false]), (9, [true, true, true, true, true, true, true, true, true, false, false, false, false, false, false]), (13, [true, true, true, true, true, true, true, true, true, true, true, true, false, false, false]), (14, [true, true, true, true, true, true, true, true, true, true, true, false, false, false, false]), (16, [true, true, true, true, true, true, true, true, true, true, true, false, true, true, false])] 5 _ _ _ ?_
    simp only [q_vcs, q_vcc, q_vl, q_vu, ↓reduceIte, Nat.reduceEqDiff, Bool.false_eq_true, q_isc, q_mk, q_msk, zbX11_fewest, q_pad, q_ent, q_get, q_put, q_nl, q_w, List.cons_append, List.nil_append, q_aks, q_als, Nat.reduceAdd, Nat.reduceLeDiff, Nat.zero_le, true_and, and_true, Option.some.injEq, Sum.inl.injEq, Sum.inr.injEq, true_or, or_true, and_self, q_sw]
    refine ⟨_, _, (by decide : 0 < 4), c_masRow l S1 (i := 2) hPs.1.1 (tot6 hPs), fun S2 h2 => ?_⟩
    have j1' := j1.m (Or.inl rfl) h2.2.2
    have j2' := j2.m h2.2.2
    have e46 : q_I S2 40 0 46 = q_I S1 40 0 46 := by rw [(h2.2.2 40 0 (by decide)).1]
    have j6' := j6.cg e46
    obtain ⟨c1, c2, c3, c4⟩ := j2'.2.1 hd hhd
    refine q_u1 (by decide) (c_mig l S2 hY (j1'.my hM) hPs h2.1 hgc) ?_
    rw [bI_0]
    refine ⟨fun h => ?_, fun h => ?_⟩
    · have hng : ¬ rch (q hd) g = true := by rw [h]; decide
      exact h9 (q hd) hd best ff hng (fun S1 tl q d m h => hK best ff S1 tl q d m h) 9 0 S2 tl q d m (by omega) ⟨j1', j2', ⟨j3, hhd, fun x v hx => by have := hx.2; omega⟩, rfl, h2.1, j6'⟩
    · have hg : rch (q hd) g = true := by simpa using h
      rw [i_cl (by omega)]
      cases hb : best with
      | none =>
        refine ⟨fun h => absurd rfl h, fun _ => ⟨in2, in2, ?_⟩⟩
        have hx := hK (some (d hd)) (m hd) (q_wI S2 40 0 46 (q_I S2 71 0 (plof (q hd)))) tl q d m ⟨j1'.f, j2'.f, BI_goal j3 hhd hg hB (fun _ => by subst hb; rfl), fun B hB => ?_⟩
        · rw [show q_I (q_wI S2 40 0 46 (q_I S2 71 0 (plof (q hd)))) 70 0 (plof (q hd)) = nI (d hd) by rw [q_I_wI, if_neg (by omega)]; exact c2]
          exact hx
        · cases hB
          refine ⟨by omega, fun z => ?_⟩
          rw [q_I_wI, if_pos ⟨rfl, rfl, rfl⟩]
          exact c3 z
      | some B =>
        have hbs := j3.2.2.2
        rw [hb] at hbs
        obtain ⟨_, i1, hi1, _, hd1, _⟩ := hbs
        have hmon := hrow.2.2.2.2.1 i1 hd (by omega) hhd
        have hle := hB B hb
        have hdB : d hd = B := by omega
        have hf := j6' B hb
        refine ⟨fun _ => ⟨in2, ?_⟩, fun h => absurd h (i_ne1 (n := B) (by omega))⟩
        refine q_u1 (by decide) (c_mless l S2 (q_I S2 40 0 46) (q_I S2 71 0 (plof (q hd)))) ?_
        refine ⟨in2, ?_⟩
        rw [show q_I (q_wI S2 40 0 46 (if q_I S2 40 0 46 < q_I S2 71 0 (plof (q hd)) then q_I S2 40 0 46 else q_I S2 71 0 (plof (q hd)))) 70 0 (plof (q hd)) = nI (d hd) by rw [q_I_wI, if_neg (by omega)]; exact c2]
        refine hK (some (d hd)) (min ff (m hd)) (q_wI S2 40 0 46 _) tl q d m ⟨j1'.f, j2'.f, BI_goal j3 hhd hg hB (fun _ => by subst hb; rfl), fun B' hB' => ?_⟩
        cases hB'
        refine ⟨by omega, fun z => ?_⟩
        have h1 := hf.2 (by omega)
        have h2 := c3 z
        rw [q_I_wI, if_pos ⟨rfl, rfl, rfl⟩, h1.1, h2.1, i_min (a := m hd) (b := ff) (by omega) (by omega), Nat.min_comm]
        exact ⟨rfl, by omega⟩
  have h4 : ∀ r hd best ff S1 tl q d m, hd + r = 40500 → FJ S Y w g P0 hd best ff S1 tl q d m → AT 4 [some (.inr (.inr (40, 0))), some (.inr (.inr (65, i0))), some (.inl (oI g)), some (.inl (nI hd)), some (.inl (nI tl)), some (.inl (oI best)), none, none, none, none, none, none, none, none, none] [] S1 := by
    intro r
    induction r with
    | zero =>
      intro hd best ff S1 tl q d m hr hJ
      have := hJ.2.2.1.2.1
      have := hJ.2.1.1
      omega
    | succ r ih =>
      intro hd best ff S1 tl q d m hr hJ
      have hJ0 := hJ
      obtain ⟨j1, j2, j3, j6⟩ := hJ
      have hrow := j3.1
      have hcap := BI_cap hY hP hw hrow
      have hhtl := j3.2.1
      have fin : (hd = tl ∨ (hd < tl ∧ ∀ B, best = some B → B < d hd)) → (best = none → hd = tl) → ∃ r f, oI best = oI r ∧ Ans Y w g P0 r f ∧ (∀ F, r = some (F + 1) → q_I S1 40 0 46 = nI f) ∧ (∀ F, r = some F → F < 2 ^ 20) ∧ KQ S S1 := fun he hn => by
        cases hb : best with
        | none =>
          rw [hb] at j3
          have := hn hb
          subst this
          exact ⟨none, 0, rfl, BI_none j3 0, (fun F e => by cases e), (fun F e => by cases e), j1⟩
        | some B =>
          rw [hb] at j3
          refine ⟨some B, ff, rfl, BI_some j3 ?_, fun F e => ?_, (fun F e => by cases e; exact (j6 _ hb).1), j1⟩
          · rcases he with e | e
            · exact Or.inl e
            · exact Or.inr ⟨e.1, e.2 B hb⟩
          · cases e
            exact ((j6 _ hb).2 (by omega)).1
      refine step 40 [(1, [true, true, true, true, false, false, false, false, false, false, false, false, false, false, false]), (3, [true, true, true, false, false, false, false, false, false, false, false, false, false, false, false]), (4, [true, true, true, true, true, true, false, false, false, false, false, false, false, false, false]), (5, [true, true, true, true, true, true, true, true, false, false, false, false, false, false, false]), (9, [true, true, true, true, true, true, true, true, true, false, false, false, false, false, false]), (13, [true, true, true, true, true, true, true, true, true, true, true, true, false, false, false]), (14, [true, true, true, true, true, true, true, true, true, true, true, false, false, false, false]), (16, [true, true, true, true, true, true, true, true, true, true, true, false, true, true, false])] 4 _ _ _ ?_
      simp only [q_vcs, q_vcc, q_vl, q_vu, ↓reduceIte, Nat.reduceEqDiff, Bool.false_eq_true, q_isc, q_mk, q_msk, zbX11_fewest, q_pad, q_ent, q_get, q_put, q_nl, q_w, List.cons_append, List.nil_append, q_aks, q_als, Nat.reduceAdd, Nat.reduceLeDiff, Nat.zero_le, true_and, and_true, Option.some.injEq, Sum.inl.injEq, Sum.inr.injEq, true_or, or_true, and_self, q_sw]
      rw [nI_leI (by omega) (by omega)]
      refine ⟨fun h => fin (Or.inl (by omega)) (fun _ => by omega), fun h => ⟨i_in (by omega) (by decide), ?_⟩⟩
      have hhd : hd < tl := by omega
      have hPs := BI_rs hY hP hw hrow hhd
      have hPl := plof_lt (tot6 hPs)
      obtain ⟨c1, c2, c3, c4⟩ := j2.2.1 hd hhd
      rw [i_cl (by omega), c1]
      refine q_u1 (by decide) (c_mplaceOf l S1 hPs.1.1 (tot6 hPs)) ?_
      rw [i_cl (by omega), c2, nI_1]
      have in2 : vp_in (nI (plof (q hd))) 40500 := i_in (by omega) (by decide)
      have go := fun hB => h5 hd best ff S1 tl q d m hJ0 hhd hB (fun best ff S1 tl q d m h => ih (hd + 1) best ff S1 tl q d m (by omega) h)
      cases hb : best with
      | none =>
        rw [hb] at go
        exact ⟨fun _ => go (fun B e => by cases e), fun h => absurd rfl h⟩
      | some B =>
        have hB2 := (j6 B hb).1
        refine ⟨fun h => absurd h (i_ne1 (n := B) (by omega)), fun _ => ⟨in2, ?_⟩⟩
        rw [show oI (some B) = nI B from rfl, nI_leI (by omega) (by omega)]
        refine ⟨fun hle => ?_, fun hgt => ?_⟩
        · rw [hb] at go
          exact go (fun B' e => by cases e; exact hle)
        · rw [hb] at fin
          exact fin (Or.inr ⟨hhd, fun B' e => by cases e; omega⟩) (fun e => by cases e)
  have h3 : ∀ S1, KQ S S1 → RW1 S1 2 (stl Y g P0) → (∀ p, p < 40500 → q_I S1 70 0 p = -1) → AT 3 [some (.inr (.inr (40, 0))), some (.inr (.inr (65, i0))), some (.inl (oI g)), none, none, none, none, none, none, none, none, none, none, none, none] [] S1 := by
    intro S1 hk1 hr1 hd1
    have hPl := plof_lt (tot6 hR0)
    refine step 40 [(1, [true, true, true, true, false, false, false, false, false, false, false, false, false, false, false]), (3, [true, true, true, false, false, false, false, false, false, false, false, false, false, false, false]), (4, [true, true, true, true, true, true, false, false, false, false, false, false, false, false, false]), (5, [true, true, true, true, true, true, true, true, false, false, false, false, false, false, false]), (9, [true, true, true, true, true, true, true, true, true, false, false, false, false, false, false]), (13, [true, true, true, true, true, true, true, true, true, true, true, true, false, false, false]), (14, [true, true, true, true, true, true, true, true, true, true, true, false, false, false, false]), (16, [true, true, true, true, true, true, true, true, true, true, true, false, true, true, false])] 3 _ _ _ ?_
    simp only [q_vcs, q_vcc, q_vl, q_vu, ↓reduceIte, Nat.reduceEqDiff, Bool.false_eq_true, q_isc, q_mk, q_msk, zbX11_fewest, q_pad, q_ent, q_get, q_put, q_nl, q_w, List.cons_append, List.nil_append, q_aks, q_als, Nat.reduceAdd, Nat.reduceLeDiff, Nat.zero_le, true_and, and_true, Option.some.injEq, Sum.inl.injEq, Sum.inr.injEq, true_or, or_true, and_self, q_sw]
    refine q_u1 (by decide) (c_masNumber l S1 hR0.1.1 (tot6 hR0) hr1) ?_
    refine ⟨i_in (k := 0) (by decide) (by decide), i_in (k := 0) (by decide) (by decide), ?_⟩
    rw [show q_I (q_wI S1 69 0 (Int32.toNatClampNeg 0) (nI (numS (stl Y g P0)))) 69 0 (Int32.toNatClampNeg 0) = nI (numS (stl Y g P0)) by rw [q_I_wI, if_pos ⟨rfl, rfl, rfl⟩]]
    refine q_u1 (by decide) (c_mplaceOf l _ hR0.1.1 (tot6 hR0)) ?_
    rw [i_cl (by omega)]
    refine ⟨i_in (by omega) (by decide), ?_⟩
    refine h4 40500 0 none 0 _ 1 (fun _ => stl Y g P0) (fun _ => 0) (fun _ => 0) (by omega) ⟨((hk1.w (Or.inl rfl)).w (Or.inr (Or.inl rfl))).f, ⟨by decide, fun i hi => ?_, fun p hp hn => ?_⟩, ⟨Row_0 _ _ _ _ _ rfl rfl, by decide, fun i hi => by omega, fun i hi => by omega⟩, fun B e => by cases e⟩
    · have : i = 0 := by omega
      subst this
      refine ⟨?_, ?_, fun z => absurd z (by decide), Nat.le_refl _⟩
      · rw [q_I_wI, if_neg (by omega), q_I_wI, if_neg (by omega), q_I_wI, if_pos ⟨rfl, rfl, rfl⟩]
      · rw [q_I_wI, if_neg (by omega), q_I_wI, if_pos ⟨rfl, rfl, rfl⟩]
        rfl
    · have := hn 0 (by decide)
      rw [q_I_wI, if_neg (by omega), q_I_wI, if_neg (fun q => this q.2.2.symm), q_I_wI, if_neg (by omega)]
      exact hd1 p hp
  have h1 : ∀ r k S1, k + r = 40500 → KQ S S1 → RW1 S1 i0 P0 → (∀ p, p < k → q_I S1 70 0 p = -1) → AT 1 [some (.inr (.inr (40, 0))), some (.inr (.inr (65, i0))), some (.inl (oI g)), some (.inl (nI k)), none, none, none, none, none, none, none, none, none, none, none] [] S1 := by
    intro r
    induction r with
    | zero =>
      intro k S1 hk hk1 hr1 hd1
      refine step 40 [(1, [true, true, true, true, false, false, false, false, false, false, false, false, false, false, false]), (3, [true, true, true, false, false, false, false, false, false, false, false, false, false, false, false]), (4, [true, true, true, true, true, true, false, false, false, false, false, false, false, false, false]), (5, [true, true, true, true, true, true, true, true, false, false, false, false, false, false, false]), (9, [true, true, true, true, true, true, true, true, true, false, false, false, false, false, false]), (13, [true, true, true, true, true, true, true, true, true, true, true, true, false, false, false]), (14, [true, true, true, true, true, true, true, true, true, true, true, false, false, false, false]), (16, [true, true, true, true, true, true, true, true, true, true, true, false, true, true, false])] 1 _ _ _ ?_
      simp only [q_vcs, q_vcc, q_vl, q_vu, ↓reduceIte, Nat.reduceEqDiff, Bool.false_eq_true, q_isc, q_mk, q_msk, zbX11_fewest, q_pad, q_ent, q_get, q_put, q_nl, q_w, List.cons_append, List.nil_append, q_aks, q_als, Nat.reduceAdd, Nat.reduceLeDiff, Nat.zero_le, true_and, and_true, Option.some.injEq, Sum.inl.injEq, Sum.inr.injEq, true_or, or_true, and_self, q_sw]
      rw [show (40500 : Int32) = nI 40500 from rfl, nI_leI (by decide) (by omega)]
      refine ⟨fun _ => ?_, fun h => absurd (by omega) h⟩
      refine ⟨_, _, (by decide : 0 < 4), c_mcopies l S1 (i := i0) (k := 2) (by omega), fun S2 h2 => ?_⟩
      have r2 := RW1_cp hP.1 hr1 h2.1
      have k2 := hk1.m (Or.inl rfl) h2.2
      have d2 : ∀ p, p < 40500 → q_I S2 70 0 p = -1 := fun p hp => by
        rw [(h2.2 70 0 (by decide)).1]
        exact hd1 p (by omega)
      cases hg : g with
      | some c =>
        rw [hg] at h3
        have hc : c < 6 := by have := inn_lt hP (hgc c hg); omega
        exact ⟨fun _ => h3 S2 k2 r2 d2, fun h => absurd h (i_ne1 (n := c) (by omega))⟩
      | none =>
        rw [hg] at h3
        refine ⟨fun h => absurd rfl h, fun _ => ?_⟩
        refine ⟨_, _, (by decide : 3 < 4), c_mleaveAll l S2 hY (k2.my hM) hP r2, fun S5 h5 => ?_⟩
        exact h3 S5 (k2.m (Or.inl rfl) h5.2.2) h5.1 (fun p hp => by rw [(h5.2.2 70 0 (by decide)).1]; exact d2 p hp)
    | succ r ih =>
      intro k S1 hk hk1 hr1 hd1
      refine step 40 [(1, [true, true, true, true, false, false, false, false, false, false, false, false, false, false, false]), (3, [true, true, true, false, false, false, false, false, false, false, false, false, false, false, false]), (4, [true, true, true, true, true, true, false, false, false, false, false, false, false, false, false]), (5, [true, true, true, true, true, true, true, true, false, false, false, false, false, false, false]), (9, [true, true, true, true, true, true, true, true, true, false, false, false, false, false, false]), (13, [true, true, true, true, true, true, true, true, true, true, true, true, false, false, false]), (14, [true, true, true, true, true, true, true, true, true, true, true, false, false, false, false]), (16, [true, true, true, true, true, true, true, true, true, true, true, false, true, true, false])] 1 _ _ _ ?_
      simp only [q_vcs, q_vcc, q_vl, q_vu, ↓reduceIte, Nat.reduceEqDiff, Bool.false_eq_true, q_isc, q_mk, q_msk, zbX11_fewest, q_pad, q_ent, q_get, q_put, q_nl, q_w, List.cons_append, List.nil_append, q_aks, q_als, Nat.reduceAdd, Nat.reduceLeDiff, Nat.zero_le, true_and, and_true, Option.some.injEq, Sum.inl.injEq, Sum.inr.injEq, true_or, or_true, and_self, q_sw]
      rw [show (40500 : Int32) = nI 40500 from rfl, nI_leI (by decide) (by omega), i_cl (by omega), nI_1]
      refine ⟨fun h => absurd h (by omega), fun _ => ⟨i_in (by omega) (by decide), ?_⟩⟩
      refine ih (k + 1) _ (by omega) (hk1.w (Or.inr (Or.inl rfl))) (hr1.fr (F := fun f _ => f = 70) (fr.wI fr.rf rfl) (by decide)) (fun p hp => ?_)
      by_cases e : p = k
      · rw [q_I_wI, if_pos ⟨rfl, rfl, e⟩]
      · rw [q_I_wI, if_neg (fun q => e q.2.2)]
        exact hd1 p (by omega)
  refine step 40 [(1, [true, true, true, true, false, false, false, false, false, false, false, false, false, false, false]), (3, [true, true, true, false, false, false, false, false, false, false, false, false, false, false, false]), (4, [true, true, true, true, true, true, false, false, false, false, false, false, false, false, false]), (5, [true, true, true, true, true, true, true, true, false, false, false, false, false, false, false]), (9, [true, true, true, true, true, true, true, true, true, false, false, false, false, false, false]), (13, [true, true, true, true, true, true, true, true, true, true, true, true, false, false, false]), (14, [true, true, true, true, true, true, true, true, true, true, true, false, false, false, false]), (16, [true, true, true, true, true, true, true, true, true, true, true, false, true, true, false])] 0 _ _ _ ?_
  simp only [q_vcs, q_vcc, q_vl, q_vu, ↓reduceIte, Nat.reduceEqDiff, Bool.false_eq_true, q_isc, q_mk, q_msk, zbX11_fewest, q_pad, q_ent, q_get, q_put, q_nl, q_w, List.cons_append, List.nil_append, q_aks, q_als, Nat.reduceAdd, Nat.reduceLeDiff, Nat.zero_le, true_and, and_true, Option.some.injEq, Sum.inl.injEq, Sum.inr.injEq, true_or, or_true, and_self, q_sw]
  exact h1 40500 0 S (by omega) KQ.rf hR (fun p hp => by omega)
