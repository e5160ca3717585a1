/-! Yard: the first other lane, who gets out alone, places -/
def fol (Y : YD) (P : Nat → List Nat) (from9 : Nat) (n : Nat) : Option Nat := (List.range (Y 0 0)).find? (fun k => decide (k ≠ from9 ∧ (n : Int) ≤ rmZ Y P k))
theorem fol_lt {Y : YD} {P : Nat → List Nat} {a n k : Nat} (h : fol Y P a n = some k) : k < Y 0 0 ∧ k ≠ a ∧ (n : Int) ≤ rmZ Y P k := by
  have h1 := List.find?_some h
  have h2 := List.mem_of_find?_eq_some h
  exact ⟨List.mem_range.mp h2, of_decide_eq_true h1⟩
theorem c_firstOtherLane (l : Launch) (S : qSt) {y : Nat} {Y : YD} (hY : y_ok Y) (hR : YR S y Y) {P : Nat → List Nat} (hP : st_ok P) {a n : Nat} (ha : a < 3) (hn : n < 2 ^ 20) : q_Met q_mt l 3 k_X9_firstOtherLane 1 [.inr (.inr (3, y)), .inr (.inl (lN (es P))), .inl (nI a), .inl (nI n)] S (fun r S' => r = some (.inl (oI (fol Y P a n))) ∧ S' = S) := by
  refine q_meth zoX9_firstOtherLane q_fos (Nat.le_of_ble_eq_true rfl) ?_
  intro AT step
  have h3 := hY.1
  have hL : ∀ (k i : Nat), i + k = Y 0 0 → (List.range' i k).find? (fun k => decide (k ≠ a ∧ (n : Int) ≤ rmZ Y P k)) = fol Y P a n → AT 1 [some (.inr (.inr (3, y))), some (.inr (.inl (lN (es P)))), none, some (.inl (nI a)), some (.inl (nI n)), some (.inl (nI i))] [] S := by
    intro k
    induction k with
    | zero =>
      intro i hi hs
      refine step 20 [(1, [true, true, true, true, true, true])] 1 _ _ _ ?_
      simp only [q_vcs, q_vcc, q_vl, q_vu, ↓reduceIte, Nat.reduceEqDiff, Bool.false_eq_true, q_isc, q_mk, q_msk, zbX9_firstOtherLane, q_pad, q_ent, q_get, q_put, q_nl, q_w, List.cons_append, List.nil_append, q_aks, q_als, Nat.reduceAdd, Nat.reduceLeDiff, Nat.zero_le, true_and, and_true, Option.some.injEq, Sum.inl.injEq, Sum.inr.injEq, true_or, or_true, and_self, q_sw]
      rw [hR.1, nI_leI (by omega) (by omega)]
      refine ⟨fun _ => ?_, fun h => absurd (by omega) h⟩
      rw [← hs]
      rfl
    | succ k ih =>
      intro i hi hs
      rw [List.range'_succ] at hs
      refine step 20 [(1, [true, true, true, true, true, true])] 1 _ _ _ ?_
      simp only [q_vcs, q_vcc, q_vl, q_vu, ↓reduceIte, Nat.reduceEqDiff, Bool.false_eq_true, q_isc, q_mk, q_msk, zbX9_firstOtherLane, q_pad, q_ent, q_get, q_put, q_nl, q_w, List.cons_append, List.nil_append, q_aks, q_als, Nat.reduceAdd, Nat.reduceLeDiff, Nat.zero_le, true_and, and_true, Option.some.injEq, Sum.inl.injEq, Sum.inr.injEq, true_or, or_true, and_self, q_sw]
      rw [hR.1, nI_leI (by omega) (by omega), nI_eq (by omega) (by omega), nI_1]
      refine ⟨fun h => absurd h (by omega), fun _ => ⟨fun h => ?_, fun h => q_u1 (by decide) (c_roomOf l S hY hR hP (k := i) (by omega)) ?_⟩⟩
      · refine ih (i + 1) (by omega) ?_
        rw [← hs, List.find?_cons_of_neg (by simp [h])]
      · rw [rmI_lt hY hP (by omega) (by omega)]
        refine ⟨fun h2 => ih (i + 1) (by omega) ?_, fun h2 => ?_⟩
        · rw [← hs, List.find?_cons_of_neg (by simp; omega)]
        · rw [← hs, List.find?_cons_of_pos (by simp; exact ⟨h, by omega⟩)]
          exact ⟨rfl, rfl⟩
  refine step 20 [(1, [true, true, true, true, true, true])] 0 _ _ _ ?_
  simp only [q_vcs, q_vcc, q_vl, q_vu, ↓reduceIte, Nat.reduceEqDiff, Bool.false_eq_true, q_isc, q_mk, q_msk, zbX9_firstOtherLane, q_pad, q_ent, q_get, q_put, q_nl, q_w, List.cons_append, List.nil_append, q_aks, q_als, Nat.reduceAdd, Nat.reduceLeDiff, Nat.zero_le, true_and, and_true, Option.some.injEq, Sum.inl.injEq, Sum.inr.injEq, true_or, or_true, and_self, q_sw]
  refine hL (Y 0 0) 0 (by omega) ?_
  rw [← List.range_eq_range']
  rfl
/-- the front car of a lane goes to another one -/
def mvc (P : Nat → List Nat) (a b f : Nat) : Nat → List Nat := sp (sp P a (P a).tail) b (f :: sp P a (P a).tail b)
theorem p_out {Y : YD} {P : Nat → List Nat} (hP : p_ok Y P) (k : Nat) (hk : k < 3) : p_ok Y (sp P k (P k).tail) := by
  have hnd := nd3.mp hP.2.2.2
  have sub : ∀ j x, x ∈ sp P k (P k).tail j → x ∈ P j := fun j x hx => by
    unfold sp at hx
    split at hx
    · rename_i e; rw [e]; exact List.mem_of_mem_tail hx
    · exact hx
  have nds : ∀ j, j < 3 → (sp P k (P k).tail j).Nodup := fun j hj => by
    unfold sp
    split
    · exact (p_nd hP hk).sublist (List.tail_sublist _)
    · exact p_nd hP hj
  refine ⟨sp_ok hP.1 (rw_tl (st_row hP.1 hk)), fun j hj => ?_, fun j x hx => hP.2.2.1 j x (sub j x hx), nd3.mpr ⟨nds 0 (by decide), nds 1 (by decide), nds 2 (by decide), fun c hc => hnd.2.2.2.1 c ⟨sub 0 c hc.1, sub 1 c hc.2⟩, fun c hc => hnd.2.2.2.2.1 c ⟨sub 0 c hc.1, sub 2 c hc.2⟩, fun c hc => hnd.2.2.2.2.2 c ⟨sub 1 c hc.1, sub 2 c hc.2⟩⟩⟩
  unfold sp
  split
  · rename_i e
    rw [← e, hP.2.1 j hj]
    rfl
  · exact hP.2.1 j hj
theorem p_uni {Y : YD} {P : Nat → List Nat} (hP : p_ok Y P) {c i j : Nat} (hi : i < 3) (hj : j < 3) (h1 : c ∈ P i) (h2 : c ∈ P j) : i = j := by
  have hnd := nd3.mp hP.2.2.2
  refine Classical.byContradiction fun hne => ?_
  match i, j, hi, hj with
  | 0, 0, _, _ => exact hne rfl
  | 0, 1, _, _ => exact hnd.2.2.2.1 c ⟨h1, h2⟩
  | 0, 2, _, _ => exact hnd.2.2.2.2.1 c ⟨h1, h2⟩
  | 1, 0, _, _ => exact hnd.2.2.2.1 c ⟨h2, h1⟩
  | 1, 1, _, _ => exact hne rfl
  | 1, 2, _, _ => exact hnd.2.2.2.2.2 c ⟨h1, h2⟩
  | 2, 0, _, _ => exact hnd.2.2.2.2.1 c ⟨h2, h1⟩
  | 2, 1, _, _ => exact hnd.2.2.2.2.2 c ⟨h2, h1⟩
  | 2, 2, _, _ => exact hne rfl
theorem lnof_iff {Y : YD} {P : Nat → List Nat} (hP : p_ok Y P) {c k : Nat} (hk : k < 3) : lnof P c = some k ↔ c ∈ P k := by
  constructor
  · intro h; exact (lnof_lt h).2
  · intro h
    cases e : lnof P c with
    | none => exact absurd h (lnof_none3 e hk)
    | some j =>
      have := lnof_lt e
      rw [p_uni hP hk this.1 h this.2]
theorem p_outf {Y : YD} {P : Nat → List Nat} (hP : p_ok Y P) {k f : Nat} (hk : k < 3) (hf : (P k).head? = some f) : lnof (sp P k (P k).tail) f = none := by
  have hfm : f ∈ P k := List.mem_of_mem_head? hf
  have hno : f ∉ (P k).tail := by
    cases hr : P k with
    | nil => rw [hr] at hf; cases hf
    | cons x r =>
      rw [hr] at hf
      cases hf
      have := p_nd hP hk
      rw [hr] at this
      exact (List.nodup_cons.mp this).1
  cases e : lnof (sp P k (P k).tail) f with
  | none => rfl
  | some j =>
    obtain ⟨hj, hm⟩ := lnof_lt e
    unfold sp at hm
    split at hm
    · exact absurd hm hno
    · rename_i hjk
      exact absurd (p_uni hP hj hk hm hfm) hjk
theorem p_mv {Y : YD} (hY : y_ok Y) {P : Nat → List Nat} (hP : p_ok Y P) {a b f : Nat} (ha : a < 3) (hb : b < Y 0 0) (hf : (P a).head? = some f) : p_ok Y (mvc P a b f) ∧ (sp P a (P a).tail b).length ≤ 5 ∧ p_ok Y (sp P a (P a).tail) := by
  have hfm : f ∈ P a := List.mem_of_mem_head? hf
  have h1 := p_out hP a ha
  have := p_in hY h1 (hP.2.2.1 a f hfm) (p_outf hP ha hf) hb
  exact ⟨this.1, this.2, h1⟩
def gzl (Y : YD) (a : Nat) : List Nat → (Nat → List Nat) → Bool
  | [], _ => true
  | f :: fs, P => match fol Y P a (lgt Y f) with
    | none => false
    | some b => gzl Y a fs (mvc P a b f)
def gos (Y : YD) (P : Nat → List Nat) (c : Nat) : Bool := match lnof P c with
  | none => true
  | some a => (ahd P c).all (fun f => (kyt Y c).testBit f) && gzl Y a (ahd P c) P
theorem i_andn : ∀ a, a < 64 → ∀ k, k < 64 → (nI a &&& (nI k ^^^ (-1)) = 0 ↔ a &&& k = a) := by decide +kernel
theorem kyt_lt {Y : YD} (hY : y_ok Y) (c : Nat) : kyt Y c < 64 := by
  unfold kyt
  split
  · exact (hY.2.2.2.2 c (by assumption)).2.2.2.2
  · omega
theorem bo_sub {r : List Nat} {k : Nat} : bo r &&& k = bo r ↔ r.all (fun f => k.testBit f) = true := by
  rw [List.all_eq_true]
  constructor
  · intro h f hf
    have := congrArg (fun n => n.testBit f) h
    simp only [Nat.testBit_and, bo_bit, hf, decide_true, Bool.true_and] at this
    exact this
  · intro h
    apply Nat.eq_of_testBit_eq
    intro i
    rw [Nat.testBit_and, bo_bit]
    by_cases hi : i ∈ r
    · simp [hi, h i hi]
    · simp [hi]
theorem ahd_split {P : Nat → List Nat} {c a : Nat} (h : lnof P c = some a) : ∃ t, P a = ahd P c ++ c :: t := by
  have hm := (lnof_lt h).2
  unfold ahd
  rw [h]
  dsimp only
  generalize P a = r at hm
  clear h
  induction r with
  | nil => cases hm
  | cons x r ih =>
    by_cases e : x = c
    · subst e
      exact ⟨r, by simp⟩
    · rcases List.mem_cons.mp hm with q | q
      · exact absurd q.symm e
      · obtain ⟨t, ht⟩ := ih q
        refine ⟨t, ?_⟩
        rw [List.takeWhile_cons, if_pos (by simpa using e), List.cons_append, ← ht]
theorem c_getsOutAlone (l : Launch) (S : qSt) {y : Nat} {Y : YD} (hY : y_ok Y) (hO : YO S y Y) {P : Nat → List Nat} (hP : p_ok Y P) {c : Nat} (hc : c < Y 1 0) : q_Met q_mt l 4 k_X9_getsOutAlone 1 [.inr (.inr (3, y)), .inr (.inl (lN (es P))), .inl (nI c)] S (fun r S' => r = some (.inl (bI (gos Y P c))) ∧ S' = S) := by
  refine q_meth zoX9_getsOutAlone q_fos (Nat.le_of_ble_eq_true rfl) ?_
  intro AT step
  have h6 := hY.2.1
  have h3 := hY.1
  refine step 20 [(2, [true, true, true, true, true, true, true, true, true, false, false])] 0 _ _ _ ?_
  simp only [q_vcs, q_vcc, q_vl, q_vu, ↓reduceIte, Nat.reduceEqDiff, Bool.false_eq_true, q_isc, q_mk, q_msk, zbX9_getsOutAlone, q_pad, q_ent, q_get, q_put, q_nl, q_w, List.cons_append, List.nil_append, q_aks, q_als, Nat.reduceAdd, Nat.reduceLeDiff, Nat.zero_le, true_and, and_true, Option.some.injEq, Sum.inl.injEq, Sum.inr.injEq, true_or, or_true, and_self, q_sw]
  refine q_u1 (by decide) (c_laneOf l S hP.1 (c := c) (by omega)) (q_u1 (by decide) (c_aheadOf l S hP.1 (c := c) (by omega)) (q_u1 (by decide) (c_keysOf l S hY hO.1 (k := c) (by omega)) ?_))
  have hbo : bo (ahd P c) < 64 := by
    unfold ahd
    split
    · decide
    · rename_i k hk
      have := st_row hP.1 (lnof_lt hk).1
      exact bo_lt (fun x hx => this.2 x ((List.takeWhile_prefix _).subset hx))
  rw [i_andn _ hbo _ (kyt_lt hY c), bo_sub]
  cases hln : lnof P c with
  | none =>
    have ha : ahd P c = [] := by unfold ahd; rw [hln]
    have hg : gos Y P c = true := by unfold gos; rw [hln]
    rw [ha]
    refine ⟨fun _ => ?_, fun h => absurd rfl h⟩
    refine step 20 [(2, [true, true, true, true, true, true, true, true, true, false, false])] 2 _ _ _ ?_
    simp only [q_vcs, q_vcc, q_vl, q_vu, ↓reduceIte, Nat.reduceEqDiff, Bool.false_eq_true, q_isc, q_mk, q_msk, zbX9_getsOutAlone, q_pad, q_ent, q_get, q_put, q_nl, q_w, List.cons_append, List.nil_append, q_aks, q_als, Nat.reduceAdd, Nat.reduceLeDiff, Nat.zero_le, true_and, and_true, Option.some.injEq, Sum.inl.injEq, Sum.inr.injEq, true_or, or_true, and_self, q_sw]
    refine ⟨fun h => absurd h (by decide), fun _ => ⟨fun _ => ?_, fun h => absurd rfl h⟩⟩
    rw [hg]
    rfl
  | some a =>
    obtain ⟨ha, hm⟩ := lnof_lt hln
    refine ⟨fun hk => ?_, fun hk => ?_⟩
    case some.refine_2 =>
      have hg : gos Y P c = false := by
        unfold gos
        rw [hln]
        dsimp only
        rw [show (ahd P c).all (fun f => (kyt Y c).testBit f) = false by simpa using hk]
        rfl
      rw [hg]
      exact ⟨rfl, rfl⟩
    have hg0 : gzl Y a (ahd P c) P = gos Y P c := by
      unfold gos
      rw [hln]
      dsimp only
      rw [hk, Bool.true_and]
    obtain ⟨t, ht⟩ := ahd_split hln
    have hlen : (ahd P c).length ≤ 5 := by
      have := (st_row hP.1 ha).1
      rw [ht] at this
      simp at this
      omega
    have hL : ∀ (fs : List Nat) (i : Nat) (P1 : Nat → List Nat), i + fs.length ≤ 5 → p_ok Y P1 → P1 a = fs ++ c :: t → gzl Y a fs P1 = gos Y P c → AT 2 [some (.inr (.inr (3, y))), some (.inr (.inl (lN (es P)))), none, some (.inl (nI c)), some (.inl (nI a)), some (.inl (nI (bo (ahd P c)))), some (.inr (.inl (lN (es P1)))), none, some (.inl (nI i)), none, none] [] S := by
      intro fs
      induction fs with
      | nil =>
        intro i P1 hi h1 hP1 hg
        refine step 20 [(2, [true, true, true, true, true, true, true, true, true, false, false])] 2 _ _ _ ?_
        simp only [q_vcs, q_vcc, q_vl, q_vu, ↓reduceIte, Nat.reduceEqDiff, Bool.false_eq_true, q_isc, q_mk, q_msk, zbX9_getsOutAlone, q_pad, q_ent, q_get, q_put, q_nl, q_w, List.cons_append, List.nil_append, q_aks, q_als, Nat.reduceAdd, Nat.reduceLeDiff, Nat.zero_le, true_and, and_true, Option.some.injEq, Sum.inl.injEq, Sum.inr.injEq, true_or, or_true, and_self, q_sw]
        refine ⟨fun h => ?_, fun _ => ⟨fun h => absurd h (i_ne1 (by omega)), fun _ => q_u1 (by decide) (c_frontOf l S h1.1 ha) ?_⟩⟩
        · rw [show (6 : Int32) = nI 6 from rfl, nI_leI (by decide) (by omega)] at h
          simp at hi
          omega
        · rw [hP1, ← hg]
          exact ⟨fun _ => ⟨rfl, rfl⟩, fun h => absurd rfl h⟩
      | cons f fs ih =>
        intro i P1 hi h1 hP1 hg
        simp only [List.length_cons] at hi
        have hf : (P1 a).head? = some f := by rw [hP1]; rfl
        have hfm : f ∈ P1 a := List.mem_of_mem_head? hf
        have hfY := h1.2.2.1 a f hfm
        have hfc : f ≠ c := by
          have := p_nd h1 ha
          rw [hP1] at this
          intro e
          subst e
          simp at this
        refine step 20 [(2, [true, true, true, true, true, true, true, true, true, false, false])] 2 _ _ _ ?_
        simp only [q_vcs, q_vcc, q_vl, q_vu, ↓reduceIte, Nat.reduceEqDiff, Bool.false_eq_true, q_isc, q_mk, q_msk, zbX9_getsOutAlone, q_pad, q_ent, q_get, q_put, q_nl, q_w, List.cons_append, List.nil_append, q_aks, q_als, Nat.reduceAdd, Nat.reduceLeDiff, Nat.zero_le, true_and, and_true, Option.some.injEq, Sum.inl.injEq, Sum.inr.injEq, true_or, or_true, and_self, q_sw]
        refine ⟨fun h => ?_, fun _ => ⟨fun h => absurd h (i_ne1 (by omega)), fun _ => q_u1 (by decide) (c_frontOf l S h1.1 ha) ?_⟩⟩
        · rw [show (6 : Int32) = nI 6 from rfl, nI_leI (by decide) (by omega)] at h
          omega
        · rw [hf]
          refine ⟨fun h => absurd ((nI_eq (by omega) (by omega)).mp h) hfc, fun _ => q_u1 (by decide) (c_frontOf l S h1.1 ha) ?_⟩
          rw [hf]
          have hl2 := lgt_le hY f
          refine q_u1 (by decide) (c_lengthOf l S hY hO.1 (k := f) (by omega)) (q_u1 (by decide) (c_firstOtherLane l S hY hO.1 h1.1 (a := a) (n := lgt Y f) ha (by omega)) ?_)
          rw [gzl] at hg
          cases hfo : fol Y P1 a (lgt Y f) with
          | none =>
            rw [hfo] at hg
            rw [← hg]
            exact ⟨fun h => absurd rfl h, fun _ => ⟨rfl, rfl⟩⟩
          | some b =>
            rw [hfo] at hg
            dsimp only at hg
            obtain ⟨hb, hba, -⟩ := fol_lt hfo
            obtain ⟨g1, g2, g3⟩ := p_mv hY h1 ha hb hf
            refine ⟨fun _ => q_u2 (by decide) (c_driveOut l S h1.1 ha) (q_u2 (by decide) (c_driveIn l S g3.1 (k := b) (c := f) (by omega) (by omega) g2) ?_), fun h => absurd h (i_ne1 (by omega))⟩
            rw [nI_1]
            refine ih (i + 1) _ (by omega) g1 ?_ hg
            show sp (sp P1 a (P1 a).tail) b _ a = _
            unfold sp
            rw [if_neg (Ne.symm hba), if_pos rfl, hP1]
            rfl
    exact hL (ahd P c) 0 P (by omega) hP ht hg0
