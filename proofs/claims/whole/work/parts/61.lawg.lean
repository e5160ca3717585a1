/-! Law: what is read can be reckoned; the facts of a move -/
theorem nmN_lt {T : Nat → Nat} {n a lo h b : Nat} (hh : pnm T n lo h (.inl a) = .inl b) : lo ≤ nmN T n a ∧ nmN T n a < h := by
  cases hE : nmE T n a lo h none with
  | some q => rw [pnm_no hE] at hh; cases hh
  | none => exact ⟨(nmE_none hE).1, (nmE_none hE).2.1⟩
theorem rpd_op {k : Nat} (hk : 2 ≤ k) (m : Nat) : rpd [(k, 0)] (m + 2) = some (m + 1) := by
  unfold rpd
  rw [if_neg (by show ¬ k < 2; omega), if_pos (by omega)]
  rfl
theorem lp_wf (T : Nat → Nat) (n : Nat) : ∀ (f m o a : Nat) (c : List Tok) (b : Nat) (c' : List Tok), lp T n f m o a c = some (.inl b, c') → ∃ u, c' = c ++ u ∧ (∀ t ∈ u, tko t) ∧ ∀ k, ((m = 1 ∨ m = 3) → rpd u (k + 1) = some (k + 1)) ∧ (m ≠ 1 → m ≠ 3 → rpd u k = some (k + 1)) := by
  have rest : ∀ {kk : Nat} {u v : List Tok}, 2 ≤ kk → kk ≤ 8 → (∀ t ∈ u, tko t) → (∀ t ∈ v, tko t) → (∀ k, rpd u k = some (k + 1)) → (∀ k, rpd v (k + 1) = some (k + 1)) → (∀ t ∈ u ++ ([(kk, 0)] ++ v), tko t) ∧ ∀ k, rpd (u ++ ([(kk, 0)] ++ v)) (k + 1) = some (k + 1) := by
    intro kk u v h2 h8 hu hv h1 h3
    refine ⟨fun t ht => ?_, fun k => ?_⟩
    · simp only [List.mem_append, List.mem_cons, List.not_mem_nil, or_false] at ht
      rcases ht with h | rfl | h
      · exact hu t h
      · exact Or.inr (Or.inr ⟨h2, h8⟩)
      · exact hv t h
    · rw [rpd_app, h1 (k + 1)]
      show rpd ([(kk, 0)] ++ v) (k + 2) = _
      rw [rpd_app, rpd_op h2]
      exact h3 k
  have seq : ∀ {u v : List Tok}, (∀ t ∈ u, tko t) → (∀ t ∈ v, tko t) → (∀ k, rpd u k = some (k + 1)) → (∀ k, rpd v (k + 1) = some (k + 1)) → (∀ t ∈ u ++ v, tko t) ∧ ∀ k, rpd (u ++ v) k = some (k + 1) := by
    intro u v hu hv h1 h3
    refine ⟨fun t ht => ?_, fun k => ?_⟩
    · rcases List.mem_append.mp ht with h | h
      · exact hu t h
      · exact hv t h
    · rw [rpd_app, h1 k]
      exact h3 k
  intro f
  induction f with
  | zero => intro m o a c b c' h; cases h
  | succ f ih =>
    intro m o a c b c' h
    match m, h with
    | 0, h =>
      obtain ⟨b1, c1, e1, e2⟩ := andT_inl (show andT (lp T n f 2 o a c) _ = _ from h)
      obtain ⟨u, hu, g1, g2⟩ := ih 2 o a c b1 c1 e1
      obtain ⟨v, hv, g3, g4⟩ := ih 1 o b1 c1 b c' e2
      have := seq g1 g3 (fun k => (g2 k).2 (by decide) (by decide)) (fun k => (g4 k).1 (Or.inl rfl))
      exact ⟨u ++ v, by rw [hv, hu, List.append_assoc], this.1, fun k => ⟨fun h => by omega, fun _ _ => this.2 k⟩⟩
    | 1, h =>
      cases hs : sop T n (tx T n isb a) with
      | none =>
        rw [lp_1n hs] at h
        cases h
        exact ⟨[], by simp, fun t ht => (by cases ht), fun k => ⟨fun _ => rfl, fun h => absurd rfl h⟩⟩
      | some kk =>
        rw [lp_1s hs] at h
        have hk := (sop_lt hs).2
        obtain ⟨b1, c1, e1, e2⟩ := andT_inl h
        obtain ⟨u, hu, g1, g2⟩ := ih 2 o _ c b1 c1 e1
        obtain ⟨v, hv, g3, g4⟩ := ih 1 o b1 _ b c' e2
        have := rest (kk := kk) (by omega) (by omega) g1 g3 (fun k => (g2 k).2 (by decide) (by decide)) (fun k => (g4 k).1 (Or.inl rfl))
        exact ⟨u ++ ([(kk, 0)] ++ v), by rw [hv, hu]; simp only [List.append_assoc], this.1, fun k => ⟨fun _ => this.2 k, fun h => absurd rfl h⟩⟩
    | 2, h =>
      obtain ⟨b1, c1, e1, e2⟩ := andT_inl (show andT (lp T n f 4 o a c) _ = _ from h)
      obtain ⟨u, hu, g1, g2⟩ := ih 4 o a c b1 c1 e1
      obtain ⟨v, hv, g3, g4⟩ := ih 3 o b1 c1 b c' e2
      have := seq g1 g3 (fun k => (g2 k).2 (by decide) (by decide)) (fun k => (g4 k).1 (Or.inr rfl))
      exact ⟨u ++ v, by rw [hv, hu, List.append_assoc], this.1, fun k => ⟨fun h => by omega, fun _ _ => this.2 k⟩⟩
    | 3, h =>
      cases hs : pop T n (tx T n isb a) with
      | none =>
        rw [lp_3n hs] at h
        cases h
        exact ⟨[], by simp, fun t ht => (by cases ht), fun k => ⟨fun _ => rfl, fun _ h => absurd rfl h⟩⟩
      | some kk =>
        rw [lp_3s hs] at h
        have hk := (pop_lt hs).2
        obtain ⟨b1, c1, e1, e2⟩ := andT_inl h
        obtain ⟨u, hu, g1, g2⟩ := ih 4 o _ c b1 c1 e1
        obtain ⟨v, hv, g3, g4⟩ := ih 3 o b1 _ b c' e2
        have := rest (kk := kk) (by omega) (by omega) g1 g3 (fun k => (g2 k).2 (by decide) (by decide)) (fun k => (g4 k).1 (Or.inr rfl))
        exact ⟨u ++ ([(kk, 0)] ++ v), by rw [hv, hu]; simp only [List.append_assoc], this.1, fun k => ⟨fun _ => this.2 k, fun _ h => absurd rfl h⟩⟩
    | m + 4, h =>
      rw [lp] at h <;> try (intro q; omega)
      split at h
      · split at h
        · cases h
        · obtain ⟨b1, c1, e1, e2⟩ := andT_inl h
          obtain ⟨u, hu, g1, g2⟩ := ih 0 (o + 1) _ c b1 c1 e1
          have e4 : c1 = c' := by
            have := congrArg (fun x => x.map Prod.snd) e2
            simpa using this
          subst e4
          exact ⟨u, hu, g1, fun k => ⟨fun h => by omega, fun _ _ => (g2 k).2 (by decide) (by decide)⟩⟩
      · split at h
        · have e3 : pnm T n 0 1000 (.inl (tx T n isb a)) = .inl b := by
            have := congrArg (fun x => x.map Prod.fst) h
            simpa using this
          have e4 : c ++ [(0, nmN T n (tx T n isb a))] = c' := by
            have := congrArg (fun x => x.map Prod.snd) h
            simpa using this
          refine ⟨_, e4.symm, fun t ht => ?_, fun k => ⟨fun h => by omega, fun _ _ => rfl⟩⟩
          simp only [List.mem_cons, List.not_mem_nil, or_false] at ht
          subst ht
          exact Or.inl ⟨rfl, (nmN_lt e3).2⟩
        · cases hf : fct T (tx T n isb a) (tx T n isl (tx T n isb a)) with
          | some k =>
            rw [hf] at h
            have hk := fct_lt hf
            cases h
            refine ⟨_, rfl, fun t ht => ?_, fun k => ⟨fun h => by omega, fun _ _ => rfl⟩⟩
            simp only [List.mem_cons, List.not_mem_nil, or_false] at ht
            subst ht
            exact Or.inr (Or.inl ⟨rfl, hk.2⟩)
          | none =>
            rw [hf] at h
            dsimp only at h
            cases ht : two T (tx T n isb a) (tx T n isl (tx T n isb a)) with
            | none => rw [ht] at h; cases h
            | some kk =>
              rw [ht] at h
              dsimp only at h
              have htw := two_lt ht
              split at h
              · cases h
              · obtain ⟨b1, c1, e1, h⟩ := andT_inl h
                have e1b : c = c1 := by
                  have := congrArg (fun x => x.map Prod.snd) e1
                  simpa using this
                subst e1b
                obtain ⟨b2, c2, e2, h⟩ := andT_inl h
                obtain ⟨u, hu, g1, g2⟩ := ih 0 (o + 1) _ _ b2 c2 e2
                obtain ⟨b3, c3, e3, h⟩ := andT_inl h
                have e3b : c2 = c3 := by
                  have := congrArg (fun x => x.map Prod.snd) e3
                  simpa using this
                subst e3b
                obtain ⟨b4, c4, e4, h⟩ := andT_inl h
                obtain ⟨v, hv, g3, g4⟩ := ih 0 (o + 1) _ _ b4 c4 e4
                have e5b : c4 ++ [(kk, 0)] = c' := by
                  have := congrArg (fun x => x.map Prod.snd) h
                  simpa using this
                refine ⟨u ++ (v ++ [(kk, 0)]), by rw [← e5b, hv, hu]; simp only [List.append_assoc], fun t ht => ?_, fun k => ⟨fun h => by omega, fun _ _ => ?_⟩⟩
                · simp only [List.mem_append, List.mem_cons, List.not_mem_nil, or_false] at ht
                  rcases ht with h | h | rfl
                  · exact g1 t h
                  · exact g3 t h
                  · exact Or.inr (Or.inr ⟨by show 2 ≤ kk; omega, by show kk ≤ 8; omega⟩)
                · rw [rpd_app, (g2 k).2 (by decide) (by decide)]
                  show rpd (v ++ [(kk, 0)]) (k + 1) = _
                  rw [rpd_app, (g4 (k + 1)).2 (by decide) (by decide)]
                  exact rpd_op (by omega) k
theorem lp_lwf {T : Nat → Nat} {n f b : Nat} {c : List Tok} (hn : n ≤ 150) (h : lp T n f 0 0 0 [] = some (.inl b, c)) : lwf c := by
  obtain ⟨u, hu, g1, g2⟩ := lp_wf T n f 0 0 0 [] b c h
  have hl := lp_len T n f 0 0 0 [] b c h (by omega)
  simp only [List.nil_append] at hu
  subst hu
  refine ⟨g1, (g2 0).2 (by decide) (by decide), ?_⟩
  simp only [List.length_nil] at hl
  omega
/-- the usual law -/
def defc : List Tok := [(1, 0), (0, 10), (4, 0), (1, 1), (0, 5), (4, 0), (2, 0)]
theorem defc_wf : lwf defc := ⟨by unfold defc tko; decide, by decide, by decide⟩
theorem lvv_def (F : Nat → Int32) : lvv F defc = F 0 * 10 + F 1 * 5 := rfl
theorem c_writeDefault (l : Launch) (S : qSt) {i : Nat} : q_Met q_mt l 1 k_X1_writeDefault 0 [.inr (.inr (12, i))] S (fun _ S' => LC S' i (defc.map tkI) ∧ fr (fun f j => j = i ∧ (f = 12 ∨ f = 13)) S S') := by
  refine q_meth zoX1_writeDefault q_fos (Nat.le_of_ble_eq_true rfl) ?_
  intro AT step
  refine step 20 [] 0 _ _ _ ?_
  simp only [q_vcs, q_vcc, q_vl, q_vu, ↓reduceIte, Nat.reduceEqDiff, Bool.false_eq_true, q_isc, q_mk, q_msk, zbX1_writeDefault, q_pad, q_ent, q_get, q_put, q_nl, q_w, List.cons_append, List.nil_append, q_aks, q_als, Nat.reduceAdd, Nat.reduceLeDiff, Nat.zero_le, true_and, and_true, Option.some.injEq, Sum.inl.injEq, Sum.inr.injEq, true_or, or_true, and_self, q_sw]
  have h0 : LC (q_wI S 12 i 3 0) i [] := ⟨by rw [q_I_wI, if_pos ⟨rfl, rfl, rfl⟩]; rfl, by decide, fun k hk => by simp at hk⟩
  have f0 : fr (fun f j => j = i ∧ (f = 12 ∨ f = 13)) S (q_wI S 12 i 3 0) := fr.wI fr.rf ⟨rfl, Or.inl rfl⟩
  refine ⟨_, _, (by decide : 0 < 1), c_lwrite l _ _ h0, fun S1 h1 => ?_⟩
  obtain ⟨⟨c1, a1, b1⟩, f1⟩ := h1
  have b1 := b1 (by decide)
  subst b1
  refine ⟨_, _, (by decide : 0 < 1), c_lwrite l _ _ a1, fun S2 h1 => ?_⟩
  obtain ⟨⟨c2, a2, b2⟩, f2⟩ := h1
  have b2 := b2 (by simp)
  subst b2
  refine ⟨_, _, (by decide : 0 < 1), c_lwrite l _ _ a2, fun S3 h1 => ?_⟩
  obtain ⟨⟨c3, a3, b3⟩, f3⟩ := h1
  have b3 := b3 (by simp)
  subst b3
  refine ⟨_, _, (by decide : 0 < 1), c_lwrite l _ _ a3, fun S4 h1 => ?_⟩
  obtain ⟨⟨c4, a4, b4⟩, f4⟩ := h1
  have b4 := b4 (by simp)
  subst b4
  refine ⟨_, _, (by decide : 0 < 1), c_lwrite l _ _ a4, fun S5 h1 => ?_⟩
  obtain ⟨⟨c5, a5, b5⟩, f5⟩ := h1
  have b5 := b5 (by simp)
  subst b5
  refine ⟨_, _, (by decide : 0 < 1), c_lwrite l _ _ a5, fun S6 h1 => ?_⟩
  obtain ⟨⟨c6, a6, b6⟩, f6⟩ := h1
  have b6 := b6 (by simp)
  subst b6
  refine ⟨_, _, (by decide : 0 < 1), c_lwrite l _ _ a6, fun S7 h1 => ?_⟩
  obtain ⟨⟨c7, a7, b7⟩, f7⟩ := h1
  have b7 := b7 (by simp)
  subst b7
  exact ⟨a7, ((((((f0.tr f1).tr f2).tr f3).tr f4).tr f5).tr f6).tr f7⟩
theorem c_lclear (l : Launch) (S : qSt) {i : Nat} : q_Met q_mt l 2 k_X1_clear 0 [.inr (.inr (12, i))] S (fun _ S' => LC S' i (defc.map tkI) ∧ fr (fun f j => j = i ∧ (f = 12 ∨ f = 13)) S S') := by
  refine q_meth zoX1_clear q_fos (Nat.le_of_ble_eq_true rfl) ?_
  intro AT step
  refine step 20 [] 0 _ _ _ ?_
  simp only [q_vcs, q_vcc, q_vl, q_vu, ↓reduceIte, Nat.reduceEqDiff, Bool.false_eq_true, q_isc, q_mk, q_msk, zbX1_clear, q_pad, q_ent, q_get, q_put, q_nl, q_w, List.cons_append, List.nil_append, q_aks, q_als, Nat.reduceAdd, Nat.reduceLeDiff, Nat.zero_le, true_and, and_true, Option.some.injEq, Sum.inl.injEq, Sum.inr.injEq, true_or, or_true, and_self, q_sw]
  exact ⟨_, _, (by decide : 1 < 2), c_writeDefault l S, fun S1 h1 => h1⟩
theorem c_tellCar (l : Launch) (S : qSt) {i : Nat} (a b c d : Int32) : q_Met q_mt l 0 k_X1_tellCar 0 [.inr (.inr (12, i)), .inl a, .inl b, .inl c, .inl d] S (fun _ S' => (q_I S' 15 i 0 = a ∧ q_I S' 15 i 1 = b ∧ q_I S' 15 i 2 = c ∧ q_I S' 15 i 3 = d) ∧ fr (fun f j => f = 15 ∧ j = i) S S') := by
  refine q_meth zoX1_tellCar q_fos (Nat.le_of_ble_eq_true rfl) ?_
  intro AT step
  refine step 20 [] 0 _ _ _ ?_
  simp only [q_vcs, q_vcc, q_vl, q_vu, ↓reduceIte, Nat.reduceEqDiff, Bool.false_eq_true, q_isc, q_mk, q_msk, zbX1_tellCar, q_pad, q_ent, q_get, q_put, q_nl, q_w, List.cons_append, List.nil_append, q_aks, q_als, Nat.reduceAdd, Nat.reduceLeDiff, Nat.zero_le, true_and, and_true, Option.some.injEq, Sum.inl.injEq, Sum.inr.injEq, true_or, or_true, and_self, q_sw]
  refine ⟨i_in (by decide) (by decide), i_in (k := 1) (by decide) (by decide), i_in (k := 2) (by decide) (by decide), i_in (k := 3) (by decide) (by decide), ⟨?_, ?_, ?_, ?_⟩, fr.wI (fr.wI (fr.wI (fr.wI fr.rf ⟨rfl, rfl⟩) ⟨rfl, rfl⟩) ⟨rfl, rfl⟩) ⟨rfl, rfl⟩⟩
  all_goals simp [q_I_wI, show Int32.toNatClampNeg 0 = 0 from rfl, show Int32.toNatClampNeg 1 = 1 from rfl, show Int32.toNatClampNeg 2 = 2 from rfl, show Int32.toNatClampNeg 3 = 3 from rfl]
theorem c_tellMove (l : Launch) (S : qSt) {i : Nat} (a b c d : Int32) : q_Met q_mt l 0 k_X1_tellMove 0 [.inr (.inr (12, i)), .inl a, .inl b, .inl c, .inl d] S (fun _ S' => (q_I S' 15 i 4 = a ∧ q_I S' 15 i 5 = b ∧ q_I S' 15 i 6 = c ∧ q_I S' 15 i 7 = d) ∧ (∀ k, k < 4 → q_I S' 15 i k = q_I S 15 i k) ∧ fr (fun f j => f = 15 ∧ j = i) S S') := by
  refine q_meth zoX1_tellMove q_fos (Nat.le_of_ble_eq_true rfl) ?_
  intro AT step
  refine step 20 [] 0 _ _ _ ?_
  simp only [q_vcs, q_vcc, q_vl, q_vu, ↓reduceIte, Nat.reduceEqDiff, Bool.false_eq_true, q_isc, q_mk, q_msk, zbX1_tellMove, q_pad, q_ent, q_get, q_put, q_nl, q_w, List.cons_append, List.nil_append, q_aks, q_als, Nat.reduceAdd, Nat.reduceLeDiff, Nat.zero_le, true_and, and_true, Option.some.injEq, Sum.inl.injEq, Sum.inr.injEq, true_or, or_true, and_self, q_sw]
  refine ⟨i_in (k := 4) (by decide) (by decide), i_in (k := 5) (by decide) (by decide), i_in (k := 6) (by decide) (by decide), i_in (k := 7) (by decide) (by decide), ⟨?_, ?_, ?_, ?_⟩, fun k hk => ?_, fr.wI (fr.wI (fr.wI (fr.wI fr.rf ⟨rfl, rfl⟩) ⟨rfl, rfl⟩) ⟨rfl, rfl⟩) ⟨rfl, rfl⟩⟩
  · simp [q_I_wI, show Int32.toNatClampNeg 4 = 4 from rfl, show Int32.toNatClampNeg 5 = 5 from rfl, show Int32.toNatClampNeg 6 = 6 from rfl, show Int32.toNatClampNeg 7 = 7 from rfl]
  · simp [q_I_wI, show Int32.toNatClampNeg 4 = 4 from rfl, show Int32.toNatClampNeg 5 = 5 from rfl, show Int32.toNatClampNeg 6 = 6 from rfl, show Int32.toNatClampNeg 7 = 7 from rfl]
  · simp [q_I_wI, show Int32.toNatClampNeg 4 = 4 from rfl, show Int32.toNatClampNeg 5 = 5 from rfl, show Int32.toNatClampNeg 6 = 6 from rfl, show Int32.toNatClampNeg 7 = 7 from rfl]
  · simp [q_I_wI, show Int32.toNatClampNeg 4 = 4 from rfl, show Int32.toNatClampNeg 5 = 5 from rfl, show Int32.toNatClampNeg 6 = 6 from rfl, show Int32.toNatClampNeg 7 = 7 from rfl]
  · simp only [q_I_wI, show Int32.toNatClampNeg 4 = 4 from rfl, show Int32.toNatClampNeg 5 = 5 from rfl, show Int32.toNatClampNeg 6 = 6 from rfl, show Int32.toNatClampNeg 7 = 7 from rfl]
    rw [if_neg (by omega), if_neg (by omega), if_neg (by omega), if_neg (by omega)]
/-- the eight facts of a move -/
def fcs (Y : YD) (V : PV) (c : Nat) (own : Int32) (k : Nat) : Int32 := match k with
  | 0 => nI (lgt Y c)
  | 1 => nI (trt Y c)
  | 2 => nI (hrt Y c)
  | 3 => nI c
  | 4 => nI ((lnof V.1 c).getD 0)
  | 5 => nI (((lnof V.1 c).map (fun k => (V.1 k).length)).getD 0)
  | 6 => nI (V.2.2 c)
  | _ => own
theorem pcn_bo {r : List Nat} (hd : r.Nodup) (hr : ∀ c ∈ r, c < 6) : pcn (bo r) = r.length := by
  unfold pcn
  have h := cnt_list (p := fun _ => true) (n := 12) hd (fun c hc => by have := hr c hc; omega)
  rw [List.countP_true] at h
  rw [← h]
  refine fa_cnt_cong fun k _ => ?_
  rw [bo_bit]
  simp
theorem i_max0 {o : Option Nat} (h : ∀ k, o = some k → k < 2 ^ 30) : (if oI o < 0 then 0 else oI o) = nI (o.getD 0) := by
  cases o with
  | none => rfl
  | some k =>
    show (if nI k < 0 then 0 else nI k) = nI k
    rw [if_neg (nI_pos (by have := h k rfl; omega))]
theorem c_secondsNow (l : Launch) (S : qSt) {i y r c : Nat} {Y : YD} {V : PV} {cd : List Tok} (own : Int32) (hY : y_ok Y) (hYR : YR S y Y) (hV : PR S r V) (hP : p_ok Y V.1) (hc : c < Y 1 0) (hw : lwf cd) (hL : LC S i (cd.map tkI)) : q_Met q_mt l 3 k_X1_secondsNow 1 [.inr (.inr (12, i)), .inr (.inr (3, y)), .inr (.inr (26, r)), .inl (nI c), .inl own] S (fun v S' => v = some (.inl (nI (secn (lvv (fcs Y V c own) cd)))) ∧ fr (fun f j => j = i ∧ (f = 14 ∨ f = 15)) S S') := by
  refine q_meth zoX1_secondsNow q_fos (Nat.le_of_ble_eq_true rfl) ?_
  intro AT step
  have h6 := hY.2.1
  have hln : ∀ k, lnof V.1 c = some k → k < 3 := fun k h => (lnof_lt h).1
  have at2 : AT 2 [some (.inr (.inr (12, i))), some (.inr (.inr (3, y))), some (.inr (.inr (26, r))), some (.inl (nI c)), some (.inl own), some (.inl (oI (lnof V.1 c))), none] [.inl (nI (((lnof V.1 c).map (fun k => (V.1 k).length)).getD 0))] S := by
    refine step 20 [] 2 _ _ _ ?_
    simp only [q_vcs, q_vcc, q_vl, q_vu, ↓reduceIte, Nat.reduceEqDiff, Bool.false_eq_true, q_isc, q_mk, q_msk, zbX1_secondsNow, q_pad, q_ent, q_get, q_put, q_nl, q_w, List.cons_append, List.nil_append, q_aks, q_als, Nat.reduceAdd, Nat.reduceLeDiff, Nat.zero_le, true_and, and_true, Option.some.injEq, Sum.inl.injEq, Sum.inr.injEq, true_or, or_true, and_self, q_sw]
    refine q_u1 (by decide) (c_lengthOf l S hY hYR (k := c) (by omega)) ?_
    refine q_u1 (by decide) (c_triesOf l S hY hYR (k := c) (by omega)) ?_
    refine q_u1 (by decide) (c_hourOf l S hY hYR (k := c) (by omega)) ?_
    refine ⟨_, _, (by decide : 0 < 3), c_tellCar l S _ _ _ _, fun S1 h1 => ?_⟩
    have hV1 : PR S1 r V := hV.fr h1.2 (by omega) (by omega)
    rw [i_max0 (fun k h => by have := hln k h; omega)]
    refine ⟨by decide, q_u1 (by decide) (c_movesOf l S1 (c := c) hV1 (by omega)) ?_⟩
    refine ⟨_, _, (by decide : 0 < 3), c_tellMove l S1 _ _ _ _, fun S2 h2 => ?_⟩
    have hf2 : fr (fun f j => j = i ∧ (f = 14 ∨ f = 15)) S S2 := (h1.2.tr h2.2.2).mn fun f j h => ⟨h.2, Or.inr h.1⟩
    have hF : FC S2 i (fcs Y V c own) := by
      intro k hk
      have e : k = 0 ∨ k = 1 ∨ k = 2 ∨ k = 3 ∨ k = 4 ∨ k = 5 ∨ k = 6 ∨ k = 7 := by omega
      rcases e with rfl | rfl | rfl | rfl | rfl | rfl | rfl | rfl
      · rw [h2.2.1 0 (by decide)]; exact h1.1.1
      · rw [h2.2.1 1 (by decide)]; exact h1.1.2.1
      · rw [h2.2.1 2 (by decide)]; exact h1.1.2.2.1
      · rw [h2.2.1 3 (by decide)]; exact h1.1.2.2.2
      · exact h2.1.1
      · exact h2.1.2.1
      · exact h2.1.2.2.1
      · exact h2.1.2.2.2
    refine ⟨_, _, (by decide : 2 < 3), c_secondsTold l S2 hw (hL.fr hf2 (by omega) (by omega)) hF, fun v S3 h3 => ?_⟩
    obtain ⟨hv, h3⟩ := h3
    cases hv
    exact ⟨rfl, hf2.tr (h3.mn fun f j h => ⟨h.2, Or.inl h.1⟩)⟩
  refine step 20 [(2, [true, true, true, true, true, true, false])] 0 _ _ _ ?_
  simp only [q_vcs, q_vcc, q_vl, q_vu, ↓reduceIte, Nat.reduceEqDiff, Bool.false_eq_true, q_isc, q_mk, q_msk, zbX1_secondsNow, q_pad, q_ent, q_get, q_put, q_nl, q_w, List.cons_append, List.nil_append, q_aks, q_als, Nat.reduceAdd, Nat.reduceLeDiff, Nat.zero_le, true_and, and_true, Option.some.injEq, Sum.inl.injEq, Sum.inr.injEq, true_or, or_true, and_self, q_sw]
  rw [hV.1]
  refine q_u1 (by decide) (c_laneOf l S hP.1 (c := c) (by omega)) ?_
  rw [hV.1]
  cases hl : lnof V.1 c with
  | none =>
    rw [hl] at at2
    exact ⟨fun h => absurd rfl h, fun _ => at2⟩
  | some k =>
    rw [hl] at at2
    have hk3 := hln k hl
    refine ⟨fun _ => ?_, fun h => absurd h (i_ne1 (by omega))⟩
    refine q_u1 (by decide) (c_rowOf l S hP.1 (k := k) hk3) ?_
    have hr := st_row hP.1 hk3
    rw [nI_l (by have := er_18 hr; omega)]
    refine q_u1 (by decide) (c_carsInRow l S hr) ?_
    have hb : bo (V.1 k) < 64 := bo_lt hr.2
    refine q_u1 (by decide) (c_bitCount l S (n := bo (V.1 k)) (by omega)) ?_
    rw [pcn_bo (p_nd hP hk3) hr.2]
    exact at2
