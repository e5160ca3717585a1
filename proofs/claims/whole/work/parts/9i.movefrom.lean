/-! The class's search: all moves from a stand -/
theorem rmW_Z {Y : YD} (hY : y_ok Y) {w : Nat} (hw : w ≤ 4) {P : Nat → List Nat} (hP : st_ok P) {k : Nat} (hk : k < 3) : (rmW Y (nI w) P k).toInt = rmX Y w P k := by
  have h1 := plc_le hY k
  have h2 := usd_le hY (P k)
  have h3 := (st_row hP hk).1
  unfold rmW rmX
  by_cases e : k = 0
  · rw [if_pos e, if_pos e]
    unfold rmI rmZ
    have : nI (plc Y k) - nI (usd Y (P k)) + nI w = nI (plc Y k + w) - nI (usd Y (P k)) := by
      rw [← nI_add, Int32.sub_eq_add_neg, Int32.sub_eq_add_neg, Int32.add_assoc, Int32.add_comm (-_), ← Int32.add_assoc]
    rw [this, pk_sub_toInt (by omega) (by omega)]
    omega
  · rw [if_neg e, if_neg e, Int32.add_zero, rmI_Z hY hP hk]
    omega
theorem rmW_le {Y : YD} (hY : y_ok Y) {w : Nat} (hw : w ≤ 4) {P : Nat → List Nat} (hP : st_ok P) {k n : Nat} (hk : k < 3) (hn : n < 2 ^ 31) : nI n ≤ rmW Y (nI w) P k ↔ (n : Int) ≤ rmX Y w P k := by
  rw [fa_le, rmW_Z hY hw hP hk, nI_toInt hn]
theorem mvE_u {Y : YD} (hY : y_ok Y) {w : Nat} {g : Option Nat} {P Q : Nat → List Nat} {a b f : Nat} (ha : a < Y 0 0) (hb : b < Y 0 0) (hf : (P a).head? = some f) (h : mvE Y w g P (10 * a + b) Q) : a ≠ b ∧ (lgt Y f : Int) ≤ rmX Y w P b ∧ Q = stl Y g (mvc P a b f) := by
  have h3 := hY.1
  obtain ⟨a', b', f', ha', hb', hab, hf', hr, hx, hQ⟩ := h
  have e1 : a' = a := by omega
  have e2 : b' = b := by omega
  subst e1
  subst e2
  rw [hf] at hf'
  cases hf'
  exact ⟨hab, hr, hQ⟩
theorem mvE_rg {Y : YD} (hY : y_ok Y) {w : Nat} {g : Option Nat} {P Q : Nat → List Nat} {x : Nat} (h : mvE Y w g P x Q) : ∃ a b, a < Y 0 0 ∧ b < Y 0 0 ∧ x = 10 * a + b ∧ P a ≠ [] := by
  obtain ⟨a', b', f', ha', hb', hab, hf', hr, hx, hQ⟩ := h
  exact ⟨a', b', ha', hb', hx, head_ne hf'⟩
def JM (S : qSt) (y : Nat) (Y : YD) (w : Nat) (g : Option Nat) (P0 : Nat → List Nat) (lim t n hd : Nat) (q : Nat → Nat → List Nat) (d m : Nat → Nat) (z : Nat) (D : Nat → (Nat → List Nat) → Prop) (S1 : qSt) : Prop := fr Fsr S S1 ∧ ∃ cut' n' q' d' m', SSt S1 y Y w g lim cut' t n' q' m' ∧ CBs Y w g P0 lim cut' q' d' m' hd n' z D ∧ Gw q d m n q' d' m' n' hd
theorem JM.sk {S : qSt} {y : Nat} {Y : YD} {w : Nat} {g : Option Nat} {P0 : Nat → List Nat} {lim t n hd : Nat} {q : Nat → Nat → List Nat} {d m : Nat → Nat} {z z' : Nat} {D D' : Nat → (Nat → List Nat) → Prop} {S1 : qSt} (h : JM S y Y w g P0 lim t n hd q d m z D S1) (hz : z ≤ z') (hD : ∀ x v, D' x v → D x v) : JM S y Y w g P0 lim t n hd q d m z' D' S1 := by
  obtain ⟨a, c, n', q', d', m', b1, b2, b3⟩ := h
  exact ⟨a, c, n', q', d', m', b1, CB_skip b2 hz hD, b3⟩
def FD (Y : YD) (w : Nat) (g : Option Nat) (P0 : Nat → List Nat) (t : Nat) (S1 : qSt) : Prop := ∃ F f, F < 2 ^ 20 ∧ An (mvE Y w g) (stl Y g P0) (fun P => rch P g = true) (some (F + 1)) f ∧ q_I S1 29 0 10 = nI (F + 1) ∧ q_I S1 29 0 11 = nI f ∧ TS S1 t
def awt (Y : YD) : Option Nat → (Nat → List Nat) → Option Nat
  | none, P => nxt Y P
  | some c, _ => some c
theorem c_moveFrom (l : Launch) (S : qSt) {y : Nat} {Y : YD} {w : Nat} {g : Option Nat} {P0 : Nat → List Nat} {lim : Nat} {cut : Bool} {t n hd : Nat} {q : Nat → Nat → List Nat} {d m : Nat → Nat} (hY : y_ok Y) (hw4 : w ≤ 4) (hP : p_ok Y P0) (hw : fitW Y w P0) (hl : lim ≤ 20000) (hS : SSt S y Y w g lim cut t n q m) (hC : CBs Y w g P0 lim cut q d m hd n 0 (fun _ _ => False)) : q_Met q_mt l 5 k_X5_moveFrom 0 [.inr (.inr (29, 0)), .inl (nI hd), .inl (nI (d hd + 1))] S (fun _ S' => (fr Fsr S S' ∧ FD Y w g P0 t S') ∨ JM S y Y w g P0 lim t n hd q d m 100 (fun x v => mvE Y w g (q hd) x v) S') := by
  have h3 := hY.1
  have hcap := CB_cap hY hP hw hC
  have hhd := hC.2.1
  have hdi := hC.2.2.1 hd hhd
  have hPs := CB_rs hY hP hw hC hhd
  have hp := hPs.1
  have hst := hp.1
  have hd0 : d hd = 0 ↔ hd = 0 := by
    refine ⟨fun e => ?_, fun e => by rw [e]; exact hC.1.2.1⟩
    have w0 := hC.1.2.2.2.1 hd hhd
    rw [e] at w0
    exact hC.1.2.2.2.2.2.1 hd 0 hhd hC.1.2.2.1 (w0.trans hC.1.1.symm)
  refine q_meth zoX5_moveFrom q_fos (Nat.le_of_ble_eq_true rfl) ?_
  intro AT step
  have h6 : ∀ a b f S1, a < Y 0 0 → b < Y 0 0 → a ≠ b → (q hd a).head? = some f → (lgt Y f : Int) ≤ rmX Y w (q hd) b → JM S y Y w g P0 lim t n hd q d m (10 * a + b) (fun x v => mvE Y w g (q hd) x v ∧ x < 10 * a + b) S1 → (∀ S2, JM S y Y w g P0 lim t n hd q d m (10 * a + (b + 1)) (fun x v => mvE Y w g (q hd) x v ∧ x < 10 * a + (b + 1)) S2 → AT 4 [some (.inr (.inr (29, 0))), some (.inl (nI hd)), some (.inl (nI (d hd + 1))), some (.inr (.inl (lN (es (q hd))))), none, some (.inl (oI (awt Y g (q hd)))), some (.inl (nI a)), some (.inl (nI f)), some (.inl (nI (b + 1))), none, none] [] S2) → AT 6 [some (.inr (.inr (29, 0))), some (.inl (nI hd)), some (.inl (nI (d hd + 1))), some (.inr (.inl (lN (es (q hd))))), none, some (.inl (oI (awt Y g (q hd)))), some (.inl (nI a)), some (.inl (nI f)), some (.inl (nI b)), some (.inr (.inl (lN (es (stl Y g (mvc (q hd) a b f)))))), none] [] S1 := by
    intro a b f S1 ha hb hab hf hr hJ hK
    obtain ⟨hf1, cut', n', q', d', m', b1, b2, b3⟩ := hJ
    obtain ⟨e1, e2, e3⟩ := b3.2.1 hd hhd
    have hE : mvE Y w g (q' hd) (10 * a + b) (stl Y g (mvc (q hd) a b f)) := by rw [e1]; exact ⟨a, b, f, ha, hb, hab, hf, hr, rfl, rfl⟩
    have hA := c_arrive l S1 hY hP hw hl b1 b2 (Nat.le_refl _) (by omega) hE
    have hb9 : by9 d' m' hd (10 * a + b) = if hd = 0 then 10 * a + b else m' hd := by
      unfold by9
      by_cases z : hd = 0
      · rw [if_pos z, if_pos (by rw [e2]; exact hd0.mpr z)]
      · rw [if_neg z, if_neg (by rw [e2]; exact fun q => z (hd0.mp q))]
    rw [e2] at hA
    have hend : ∀ S2, fr Fsr S1 S2 ∧ ((rch (stl Y g (mvc (q hd) a b f)) g = true ∧ q_I S2 29 0 10 = nI (d hd + 1) ∧ q_I S2 29 0 11 = nI (by9 d' m' hd (10 * a + b)) ∧ TS S2 t) ∨ (¬ rch (stl Y g (mvc (q hd) a b f)) g = true ∧ ∃ cut2 n2 q2 d2 m2, SSt S2 y Y w g lim cut2 t n2 q2 m2 ∧ CBs Y w g P0 lim cut2 q2 d2 m2 hd n2 (10 * a + b) (fun y u => (mvE Y w g (q hd) y u ∧ y < 10 * a + b) ∨ (y = 10 * a + b ∧ u = stl Y g (mvc (q hd) a b f))) ∧ Gw q' d' m' n' q2 d2 m2 n2 hd)) → (q_I S2 29 0 10 = -1 → AT 4 [some (.inr (.inr (29, 0))), some (.inl (nI hd)), some (.inl (nI (d hd + 1))), some (.inr (.inl (lN (es (q hd))))), none, some (.inl (oI (awt Y g (q hd)))), some (.inl (nI a)), some (.inl (nI f)), some (.inl (nI b + 1)), none, none] [] S2) ∧ (¬ q_I S2 29 0 10 = -1 → ((fr Fsr S S2 ∧ FD Y w g P0 t S2) ∨ JM S y Y w g P0 lim t n hd q d m 100 (fun x v => mvE Y w g (q hd) x v) S2)) := by
      intro S2 h2
      obtain ⟨f2, h2⟩ := h2
      rcases h2 with ⟨hg, g1, g2, g3⟩ | ⟨hg, cut2, n2, q2, d2, m2, c1, c2, c3⟩
      · refine ⟨fun h => absurd (g1.symm.trans h) (i_ne1 (by omega)), fun _ => Or.inl ⟨hf1.tr f2, d hd, by9 d' m' hd (10 * a + b), by omega, ?_, g1, g2, g3⟩⟩
        rw [← e2]
        refine CB_goal (fun k u f hu y w he => lst_mv hY (RSx_wk hY hP hw hu) he) (fun k u f hu hn => lst_1 (RSx_wk hY hP hw hu) hn) (fun k u f hu hn => lst_0 hY (RSx_wk hY hP hw hu) hn) b2 hE hg (fun y u he hy => ⟨?_, hy⟩)
        rw [e1] at he
        exact he
      · refine ⟨fun _ => ?_, fun h => absurd c1.2.2.2.2.2.1 h⟩
        rw [nI_1]
        refine hK S2 ⟨hf1.tr f2, cut2, n2, q2, d2, m2, c1, CB_skip c2 (by omega) (fun x v hx => ?_), Gw.tr hhd b3 c3⟩
        by_cases e : x = 10 * a + b
        · refine Or.inr ⟨e, ?_⟩
          have hx1 := hx.1
          rw [e] at hx1
          exact (mvE_u hY ha hb hf hx1).2.2
        · exact Or.inl ⟨hx.1, by have := hx.2; omega⟩
    refine step 40 [(3, [true, true, true, true, true, true, true, false, false, false, false]), (4, [true, true, true, true, true, true, true, true, true, false, false]), (6, [true, true, true, true, true, true, true, true, true, true, true])] 6 _ _ _ ?_
    simp only [q_vcs, q_vcc, q_vl, q_vu, ↓reduceIte, Nat.reduceEqDiff, Bool.false_eq_true, q_isc, q_mk, q_msk, zbX5_moveFrom, q_pad, q_ent, q_get, q_put, q_nl, q_w, List.cons_append, List.nil_append, q_aks, q_als, Nat.reduceAdd, Nat.reduceLeDiff, Nat.zero_le, true_and, and_true, Option.some.injEq, Sum.inl.injEq, Sum.inr.injEq, true_or, or_true, and_self, q_sw]
    have hn' := b3.1
    rw [show (0 : Int32) = nI 0 from rfl, nI_eq (by omega) (by decide), i_cl (by omega), (b1.2.2.1.2.2.2.2.1 hd (by omega)).2, show (10 : Int32) = nI 10 from rfl, pk_mul, nI_add]
    refine ⟨fun h => ?_, fun h => ?_⟩
    · rw [hb9, if_neg h] at hA hend
      exact ⟨i_in (by omega) (by decide), _, _, (by decide : 4 < 5), hA, fun S2 h2 => hend S2 h2⟩
    · rw [hb9, if_pos h] at hA hend
      exact ⟨_, _, (by decide : 4 < 5), hA, fun S2 h2 => hend S2 h2⟩
  have h4 : ∀ a, a < Y 0 0 → (∀ S1, JM S y Y w g P0 lim t n hd q d m (10 * (a + 1)) (fun x v => mvE Y w g (q hd) x v ∧ x < 10 * (a + 1)) S1 → AT 3 [some (.inr (.inr (29, 0))), some (.inl (nI hd)), some (.inl (nI (d hd + 1))), some (.inr (.inl (lN (es (q hd))))), none, some (.inl (oI (awt Y g (q hd)))), some (.inl (nI (a + 1))), none, none, none, none] [] S1) → ∀ r b S1, b + r = Y 0 0 → JM S y Y w g P0 lim t n hd q d m (10 * a + b) (fun x v => mvE Y w g (q hd) x v ∧ x < 10 * a + b) S1 → AT 4 [some (.inr (.inr (29, 0))), some (.inl (nI hd)), some (.inl (nI (d hd + 1))), some (.inr (.inl (lN (es (q hd))))), none, some (.inl (oI (awt Y g (q hd)))), some (.inl (nI a)), some (.inl (oI (q hd a).head?)), some (.inl (nI b)), none, none] [] S1 := by
    intro a ha hnext r
    induction r with
    | zero =>
      intro b S1 hb hJ
      have hs1 := hJ.2
      obtain ⟨cut', n', q', d', m', b1, b2, b3⟩ := hs1
      refine step 40 [(3, [true, true, true, true, true, true, true, false, false, false, false]), (4, [true, true, true, true, true, true, true, true, true, false, false]), (6, [true, true, true, true, true, true, true, true, true, true, true])] 4 _ _ _ ?_
      simp only [q_vcs, q_vcc, q_vl, q_vu, ↓reduceIte, Nat.reduceEqDiff, Bool.false_eq_true, q_isc, q_mk, q_msk, zbX5_moveFrom, q_pad, q_ent, q_get, q_put, q_nl, q_w, List.cons_append, List.nil_append, q_aks, q_als, Nat.reduceAdd, Nat.reduceLeDiff, Nat.zero_le, true_and, and_true, Option.some.injEq, Sum.inl.injEq, Sum.inr.injEq, true_or, or_true, and_self, q_sw]
      rw [b1.1.1, b1.2.1.1.1, nI_leI (by omega) (by omega), nI_1]
      refine ⟨fun _ => hnext S1 (hJ.sk (by omega) (fun x v hx => ⟨hx.1, ?_⟩)), fun h => absurd (by omega) h⟩
      obtain ⟨a', b', k1, k2, k3, _⟩ := mvE_rg hY hx.1
      have := hx.2
      omega
    | succ r ih =>
      intro b S1 hb hJ
      have hs1 := hJ.2
      obtain ⟨cut', n', q', d', m', b1, b2, b3⟩ := hs1
      have skip : (∀ v, ¬ mvE Y w g (q hd) (10 * a + b) v) → AT 4 [some (.inr (.inr (29, 0))), some (.inl (nI hd)), some (.inl (nI (d hd + 1))), some (.inr (.inl (lN (es (q hd))))), none, some (.inl (oI (awt Y g (q hd)))), some (.inl (nI a)), some (.inl (oI (q hd a).head?)), some (.inl (nI (b + 1))), none, none] [] S1 := fun hno => by
        refine ih (b + 1) S1 (by omega) (hJ.sk (by omega) (fun x v hx => ⟨hx.1, ?_⟩))
        have := hx.2
        refine Nat.lt_of_le_of_ne (by omega) (fun e => hno v ?_)
        rw [← e]
        exact hx.1
      refine step 40 [(3, [true, true, true, true, true, true, true, false, false, false, false]), (4, [true, true, true, true, true, true, true, true, true, false, false]), (6, [true, true, true, true, true, true, true, true, true, true, true])] 4 _ _ _ ?_
      simp only [q_vcs, q_vcc, q_vl, q_vu, ↓reduceIte, Nat.reduceEqDiff, Bool.false_eq_true, q_isc, q_mk, q_msk, zbX5_moveFrom, q_pad, q_ent, q_get, q_put, q_nl, q_w, List.cons_append, List.nil_append, q_aks, q_als, Nat.reduceAdd, Nat.reduceLeDiff, Nat.zero_le, true_and, and_true, Option.some.injEq, Sum.inl.injEq, Sum.inr.injEq, true_or, or_true, and_self, q_sw]
      rw [b1.1.1, b1.2.1.1.1, nI_leI (by omega) (by omega), nI_eq (by omega) (by omega), nI_1, nI_1]
      refine ⟨fun h => absurd h (by omega), fun _ => ⟨fun h => ?_, fun h => ⟨fun e => ?_, fun e => ?_⟩⟩⟩
      · refine hnext S1 (hJ.sk (by omega) (fun x v hx => ⟨hx.1, ?_⟩))
        obtain ⟨a', b', k1, k2, k3, k4⟩ := mvE_rg hY hx.1
        have := hx.2
        have hne : a' ≠ a := fun e => by
          rw [e] at k4
          cases hr : q hd a with
          | nil => exact k4 hr
          | cons c r => rw [hr] at h; exact i_ne1 (n := c) (by have := (st_row hst (show a < 3 by omega)).2 c (by rw [hr]; exact List.mem_cons_self); omega) h
        omega
      · refine skip (fun v hv => ?_)
        obtain ⟨a', b', f', k1, k2, k3, k4, k5, k6, k7⟩ := hv
        omega
      · cases hf : (q hd a).head? with
        | none => rw [hf] at h; exact absurd rfl h
        | some f =>
          rw [hf] at skip
          have hfm := List.mem_of_mem_head? hf
          have hfY := hp.2.2.1 a f hfm
          have h6Y := hY.2.1
          have hlg := lgt_le hY f
          refine q_u1 (by decide) (c_sroomOf l S1 b1.1 hY b1.2.1.1 hst (show b < 3 by omega)) ?_
          rw [b1.1.1]
          refine q_u1 (by decide) (c_lengthOf l S1 hY b1.2.1.1 (k := f) (by omega)) ?_
          rw [rmW_le hY hw4 hst (by omega) (by omega)]
          refine ⟨fun hr => ?_, fun hr => skip (fun v hv => hr (mvE_u hY ha (by omega) hf hv).2.1)⟩
          have hmv := p_mv hY hp (show a < 3 by omega) (show b < Y 0 0 by omega) hf
          refine q_u2 (by decide) (c_driveOut l S1 hst (show a < 3 by omega)) ?_
          refine q_u2 (by decide) (c_driveIn l S1 hmv.2.2.1 (k := b) (c := f) (by omega) (by omega) hmv.2.1) ?_
          have h6' := h6 a b f S1 ha (by omega) (fun q => e q.symm) hf hr hJ (fun S2 h2 => by
            have := ih (b + 1) S2 (by omega) h2
            rw [hf] at this
            exact this)
          rw [b1.1.2.2.1]
          cases hg : g with
          | some c =>
            rw [hg] at h6'
            have hc := b1.1.2.2.2 c hg
            exact ⟨fun _ => h6', fun h => absurd h (i_ne1 (n := c) (by omega))⟩
          | none =>
            refine ⟨fun h => absurd rfl h, fun _ => ?_⟩
            refine q_u1 (by decide) (c_frontOf l S1 hmv.1.1 (k := a) (by omega)) ?_
            have hoi := oI_eq (a := (mvc (q hd) a b f a).head?) (b := nxt Y (q hd)) (hd_lt (st_row hmv.1.1 (by omega))) (fun c hc => by have := inn_lt hp ((nxt_fst hp).mp hc).1; omega)
            rw [hg] at h6'
            have e9 : awt Y none (q hd) = nxt Y (q hd) := rfl
            rw [e9, hoi]
            refine ⟨fun hne => ?_, fun he => ?_⟩
            · have := lo_stk hmv.1 (stk_mv hY hp (hPs.2.2.1 hg) (show a < 3 by omega) (show b < Y 0 0 by omega) (fun q => e q.symm) hf hne)
              have e8 : stl Y none (mvc (q hd) a b f) = mvc (q hd) a b f := this
              rw [e8] at h6'
              exact h6'
            · rw [b1.1.1]
              exact q_u2 (by decide) (c_letOut l S1 hY b1.2.1 hmv.1.1) h6'
  have hl3 : ∀ r a S1, a + r = Y 0 0 → JM S y Y w g P0 lim t n hd q d m (10 * a) (fun x v => mvE Y w g (q hd) x v ∧ x < 10 * a) S1 → AT 3 [some (.inr (.inr (29, 0))), some (.inl (nI hd)), some (.inl (nI (d hd + 1))), some (.inr (.inl (lN (es (q hd))))), none, some (.inl (oI (awt Y g (q hd)))), some (.inl (nI a)), none, none, none, none] [] S1 := by
    intro r
    induction r with
    | zero =>
      intro a S1 ha hJ
      have hs1 := hJ.2
      obtain ⟨cut', n', q', d', m', b1, b2, b3⟩ := hs1
      refine step 40 [(3, [true, true, true, true, true, true, true, false, false, false, false]), (4, [true, true, true, true, true, true, true, true, true, false, false]), (6, [true, true, true, true, true, true, true, true, true, true, true])] 3 _ _ _ ?_
      simp only [q_vcs, q_vcc, q_vl, q_vu, ↓reduceIte, Nat.reduceEqDiff, Bool.false_eq_true, q_isc, q_mk, q_msk, zbX5_moveFrom, q_pad, q_ent, q_get, q_put, q_nl, q_w, List.cons_append, List.nil_append, q_aks, q_als, Nat.reduceAdd, Nat.reduceLeDiff, Nat.zero_le, true_and, and_true, Option.some.injEq, Sum.inl.injEq, Sum.inr.injEq, true_or, or_true, and_self, q_sw]
      rw [b1.1.1, b1.2.1.1.1, nI_leI (by omega) (by omega)]
      refine ⟨fun _ => Or.inr (hJ.sk (by omega) (fun x v hx => ⟨hx, ?_⟩)), fun h => absurd (by omega) h⟩
      obtain ⟨a', b', k1, k2, k3, _⟩ := mvE_rg hY hx
      omega
    | succ r ih =>
      intro a S1 ha hJ
      have hs1 := hJ.2
      obtain ⟨cut', n', q', d', m', b1, b2, b3⟩ := hs1
      refine step 40 [(3, [true, true, true, true, true, true, true, false, false, false, false]), (4, [true, true, true, true, true, true, true, true, true, false, false]), (6, [true, true, true, true, true, true, true, true, true, true, true])] 3 _ _ _ ?_
      simp only [q_vcs, q_vcc, q_vl, q_vu, ↓reduceIte, Nat.reduceEqDiff, Bool.false_eq_true, q_isc, q_mk, q_msk, zbX5_moveFrom, q_pad, q_ent, q_get, q_put, q_nl, q_w, List.cons_append, List.nil_append, q_aks, q_als, Nat.reduceAdd, Nat.reduceLeDiff, Nat.zero_le, true_and, and_true, Option.some.injEq, Sum.inl.injEq, Sum.inr.injEq, true_or, or_true, and_self, q_sw]
      rw [b1.1.1, b1.2.1.1.1, nI_leI (by omega) (by omega)]
      refine ⟨fun h => absurd h (by omega), fun _ => ?_⟩
      refine q_u1 (by decide) (c_frontOf l S1 hst (k := a) (by omega)) ?_
      exact h4 a (by omega) (fun S2 h2 => ih (a + 1) S2 (by omega) h2) (Y 0 0) 0 S1 (by omega) hJ
  have h0 : JM S y Y w g P0 lim t n hd q d m (10 * 0) (fun x v => mvE Y w g (q hd) x v ∧ x < 10 * 0) S := ⟨fr.rf, cut, n, q, d, m, hS, CB_skip hC (Nat.le_refl _) (fun x v h => by have := h.2; omega), Gw.rf⟩
  refine step 40 [(3, [true, true, true, true, true, true, true, false, false, false, false]), (4, [true, true, true, true, true, true, true, true, true, false, false]), (6, [true, true, true, true, true, true, true, true, true, true, true])] 0 _ _ _ ?_
  simp only [q_vcs, q_vcc, q_vl, q_vu, ↓reduceIte, Nat.reduceEqDiff, Bool.false_eq_true, q_isc, q_mk, q_msk, zbX5_moveFrom, q_pad, q_ent, q_get, q_put, q_nl, q_w, List.cons_append, List.nil_append, q_aks, q_als, Nat.reduceAdd, Nat.reduceLeDiff, Nat.zero_le, true_and, and_true, Option.some.injEq, Sum.inl.injEq, Sum.inr.injEq, true_or, or_true, and_self, q_sw]
  rw [i_cl (by omega), (hS.2.2.1.2.2.2.2.1 hd hhd).1, hS.1.2.2.1, hS.1.1]
  have hin : vp_in (nI hd) 20000 := i_in (by omega) (by decide)
  cases hg : g with
  | none =>
    refine ⟨hin, fun h => absurd rfl h, fun _ => ?_⟩
    refine q_u1 (by decide) (c_nextOut l S hY hS.2.1 hst) ?_
    have := hl3 (Y 0 0) 0 S (by omega) h0
    rw [hg] at this
    exact this
  | some c =>
    have hc := hS.1.2.2.2 c hg
    have := hl3 (Y 0 0) 0 S (by omega) h0
    rw [hg] at this
    exact ⟨hin, fun _ => this, fun h => absurd h (i_ne1 (n := c) (by omega))⟩
