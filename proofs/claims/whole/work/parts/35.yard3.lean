/-! Yard: who leaves, who comes home, lanes -/
/-- those whose turn it is leave, as long as they are front -/
def lout : List Nat → (Nat → List Nat) → (Nat → List Nat)
  | [], P => P
  | c :: cs, P => match lnof P c with
    | none => lout cs P
    | some k => if (P k).head? = some c then lout cs (sp P k (P k).tail) else P
def lo (Y : YD) (P : Nat → List Nat) : Nat → List Nat := lout (ordL (soon Y) (Y 1 0)) P
theorem lnof_lt {P : Nat → List Nat} {c k : Nat} (h : lnof P c = some k) : k < 3 ∧ c ∈ P k := by
  unfold lnof at h
  split at h
  · cases h; exact ⟨by decide, by assumption⟩
  · split at h
    · cases h; exact ⟨by decide, by assumption⟩
    · split at h
      · cases h; exact ⟨by decide, by assumption⟩
      · cases h
theorem oI_eq {a b : Option Nat} (ha : ∀ c, a = some c → c < 2 ^ 31) (hb : ∀ c, b = some c → c < 2 ^ 31) : oI a = oI b ↔ a = b := by
  cases a with
  | none =>
    cases b with
    | none => simp
    | some c =>
      have := i_ne1 (hb c rfl)
      constructor
      · intro h; exact absurd h.symm this
      · intro h; cases h
  | some d =>
    cases b with
    | none =>
      have := i_ne1 (ha d rfl)
      constructor
      · intro h; exact absurd h this
      · intro h; cases h
    | some c =>
      show nI d = nI c ↔ _
      rw [nI_eq (ha d rfl) (hb c rfl)]
      simp
theorem hd_lt {r : List Nat} (h : rw_ok r) : ∀ c, r.head? = some c → c < 2 ^ 31 := fun c hc => by
  have := h.2 c (List.mem_of_mem_head? hc)
  omega
theorem c_letOut (l : Launch) (S : qSt) {y : Nat} {Y : YD} (hY : y_ok Y) (hO : YO S y Y) {P : Nat → List Nat} (hP : st_ok P) : q_Met q_mt l 3 k_X9_letOut 2 [.inr (.inr (3, y)), .inr (.inl (lN (es P)))] S (fun r S' => r = some (.inr (.inl (lN (es (lo Y P))))) ∧ S' = S) := by
  refine q_meth zoX9_letOut q_fos (Nat.le_of_ble_eq_true rfl) ?_
  intro AT step
  have h6 := hY.2.1
  have hL : ∀ (k i : Nat) (P1 : Nat → List Nat), i + k = Y 1 0 → st_ok P1 → lout ((List.range' i k).map (lvc (soon Y) (Y 1 0))) P1 = lo Y P → AT 1 [some (.inr (.inr (3, y))), some (.inr (.inl (lN (es P)))), none, some (.inr (.inl (lN (es P1)))), none, some (.inl (nI i)), none] [] S := by
    intro k
    induction k with
    | zero =>
      intro i P1 hi h1 hs
      refine step 20 [(1, [true, true, true, true, true, true, false])] 1 _ _ _ ?_
      simp only [q_vcs, q_vcc, q_vl, q_vu, ↓reduceIte, Nat.reduceEqDiff, Bool.false_eq_true, q_isc, q_mk, q_msk, zbX9_letOut, q_pad, q_ent, q_get, q_put, q_nl, q_w, List.cons_append, List.nil_append, q_aks, q_als, Nat.reduceAdd, Nat.reduceLeDiff, Nat.zero_le, true_and, and_true, Option.some.injEq, Sum.inl.injEq, Sum.inr.injEq, true_or, or_true, and_self, q_sw]
      rw [hO.1.2.1, nI_leI (by omega) (by omega)]
      refine ⟨fun _ => ?_, fun h => absurd (by omega) h⟩
      rw [← hs]
      rfl
    | succ k ih =>
      intro i P1 hi h1 hs
      have hlv := lvc_spec (soon_ok Y) (show i < Y 1 0 by omega)
      refine step 20 [(1, [true, true, true, true, true, true, false])] 1 _ _ _ ?_
      simp only [q_vcs, q_vcc, q_vl, q_vu, ↓reduceIte, Nat.reduceEqDiff, Bool.false_eq_true, q_isc, q_mk, q_msk, zbX9_letOut, q_pad, q_ent, q_get, q_put, q_nl, q_w, List.cons_append, List.nil_append, q_aks, q_als, Nat.reduceAdd, Nat.reduceLeDiff, Nat.zero_le, true_and, and_true, Option.some.injEq, Sum.inl.injEq, Sum.inr.injEq, true_or, or_true, and_self, q_sw]
      rw [hO.1.2.1, i_cl (by omega), hO.lv (show i < Y 1 0 by omega)]
      rw [List.range'_succ, List.map_cons, lout] at hs
      have ii : vp_in (nI i) 6 := i_in (by omega) (by decide)
      refine ⟨fun h => absurd ((nI_leI (by omega) (by omega)).mp h) (by omega), fun _ => ⟨ii, q_u1 (by decide) (c_laneOf l S h1 (c := lvc (soon Y) (Y 1 0) i) (by omega)) ?_⟩⟩
      cases hln : lnof P1 (lvc (soon Y) (Y 1 0) i) with
      | none =>
        rw [hln] at hs
        refine ⟨fun h => absurd rfl h, fun _ => ?_⟩
        rw [nI_1]
        exact ih (i + 1) P1 (by omega) h1 hs
      | some k1 =>
        rw [hln] at hs
        obtain ⟨hk1, hmem⟩ := lnof_lt hln
        refine ⟨fun _ => ?_, fun h => absurd h (i_ne1 (by omega))⟩
        refine q_u1 (by decide) (c_frontOf l S h1 hk1) ?_
        rw [hO.lv (show i < Y 1 0 by omega), nI_1]
        have hr := st_row h1 hk1
        have e : oI (P1 k1).head? = nI (lvc (soon Y) (Y 1 0) i) ↔ (P1 k1).head? = some (lvc (soon Y) (Y 1 0) i) := oI_eq (b := some _) (hd_lt hr) (fun c hc => by cases hc; omega)
        refine ⟨ii, fun h => q_u2 (by decide) (c_driveOut l S h1 hk1) (ih (i + 1) _ (by omega) (sp_ok h1 (rw_tl hr)) ?_), fun h => ?_⟩
        · dsimp only at hs
          rw [if_pos (e.mp h)] at hs
          exact hs
        · dsimp only at hs
          rw [if_neg (fun q => h (e.mpr q))] at hs
          rw [← hs]
          exact ⟨rfl, rfl⟩
  refine step 20 [(1, [true, true, true, true, true, true, false])] 0 _ _ _ ?_
  simp only [q_vcs, q_vcc, q_vl, q_vu, ↓reduceIte, Nat.reduceEqDiff, Bool.false_eq_true, q_isc, q_mk, q_msk, zbX9_letOut, q_pad, q_ent, q_get, q_put, q_nl, q_w, List.cons_append, List.nil_append, q_aks, q_als, Nat.reduceAdd, Nat.reduceLeDiff, Nat.zero_le, true_and, and_true, Option.some.injEq, Sum.inl.injEq, Sum.inr.injEq, true_or, or_true, and_self, q_sw]
  refine hL (Y 1 0) 0 P (by omega) hP ?_
  rw [← List.range_eq_range']
  rfl
/-- rooms as whole numbers -/
def rmZ (Y : YD) (P : Nat → List Nat) (k : Nat) : Int := (plc Y k : Int) - usd Y (P k)
theorem plc_le {Y : YD} (hY : y_ok Y) (k : Nat) : plc Y k ≤ 4 := by
  unfold plc
  split
  · exact (hY.2.2.2.1 k (by assumption)).2
  · omega
theorem rmI_Z {Y : YD} (hY : y_ok Y) {P : Nat → List Nat} (hP : st_ok P) {k : Nat} (hk : k < 3) : (rmI Y P k).toInt = rmZ Y P k := by
  have h1 := plc_le hY k
  have h2 := usd_le hY (P k)
  have h3 := (st_row hP hk).1
  unfold rmI rmZ
  rw [pk_sub_toInt (by omega) (by omega)]
theorem rmI_lt {Y : YD} (hY : y_ok Y) {P : Nat → List Nat} (hP : st_ok P) {k : Nat} (hk : k < 3) {n : Nat} (hn : n < 2 ^ 31) : rmI Y P k < nI n ↔ rmZ Y P k < n := by
  rw [fa_lt, rmI_Z hY hP hk, nI_toInt hn]
theorem rmI_le {Y : YD} (hY : y_ok Y) {P : Nat → List Nat} (hP : st_ok P) {k : Nat} (hk : k < 3) {n : Nat} (hn : n < 2 ^ 31) : nI n ≤ rmI Y P k ↔ (n : Int) ≤ rmZ Y P k := by
  rw [fa_le, rmI_Z hY hP hk, nI_toInt hn]
theorem rmI_le2 {Y : YD} (hY : y_ok Y) {P : Nat → List Nat} (hP : st_ok P) {j k : Nat} (hj : j < 3) (hk : k < 3) : rmI Y P j ≤ rmI Y P k ↔ rmZ Y P j ≤ rmZ Y P k := by
  rw [fa_le, rmI_Z hY hP hk, rmI_Z hY hP hj]
/-- the lane with most room, of the lanes below n: the first -/
def wid (Y : YD) (P : Nat → List Nat) : Nat → Option Nat
  | 0 => none
  | n + 1 => match wid Y P n with
    | none => some n
    | some w => if rmZ Y P n ≤ rmZ Y P w then some w else some n
theorem wid_lt (Y : YD) (P : Nat → List Nat) : ∀ {n w : Nat}, wid Y P n = some w → w < n
  | 0, w, h => by cases h
  | n + 1, w, h => by
    unfold wid at h
    cases e : wid Y P n with
    | none => rw [e] at h; cases h; omega
    | some v =>
      rw [e] at h
      dsimp only at h
      have := wid_lt Y P e
      split at h <;> cases h <;> omega
theorem c_widestLane (l : Launch) (S : qSt) {y : Nat} {Y : YD} (hY : y_ok Y) (hR : YR S y Y) {P : Nat → List Nat} (hP : st_ok P) : q_Met q_mt l 3 k_X9_widestLane 1 [.inr (.inr (3, y)), .inr (.inl (lN (es P)))] S (fun r S' => r = some (.inl (oI (wid Y P (Y 0 0)))) ∧ S' = S) := by
  refine q_meth zoX9_widestLane q_fos (Nat.le_of_ble_eq_true rfl) ?_
  intro AT step
  have h3 := hY.1
  have hL : ∀ (k i : Nat), i + k = Y 0 0 → AT 1 [some (.inr (.inr (3, y))), some (.inr (.inl (lN (es P)))), none, some (.inl (oI (wid Y P i))), some (.inl (nI i))] [] S := by
    intro k
    induction k with
    | zero =>
      intro i hi
      refine step 20 [(1, [true, true, true, true, true])] 1 _ _ _ ?_
      simp only [q_vcs, q_vcc, q_vl, q_vu, ↓reduceIte, Nat.reduceEqDiff, Bool.false_eq_true, q_isc, q_mk, q_msk, zbX9_widestLane, q_pad, q_ent, q_get, q_put, q_nl, q_w, List.cons_append, List.nil_append, q_aks, q_als, Nat.reduceAdd, Nat.reduceLeDiff, Nat.zero_le, true_and, and_true, Option.some.injEq, Sum.inl.injEq, Sum.inr.injEq, true_or, or_true, and_self, q_sw]
      rw [hR.1, nI_leI (by omega) (by omega)]
      refine ⟨fun _ => ?_, fun h => absurd (by omega) h⟩
      rw [show i = Y 0 0 by omega]
    | succ k ih =>
      intro i hi
      have ih := ih (i + 1) (by omega)
      rw [wid] at ih
      refine step 20 [(1, [true, true, true, true, true])] 1 _ _ _ ?_
      simp only [q_vcs, q_vcc, q_vl, q_vu, ↓reduceIte, Nat.reduceEqDiff, Bool.false_eq_true, q_isc, q_mk, q_msk, zbX9_widestLane, q_pad, q_ent, q_get, q_put, q_nl, q_w, List.cons_append, List.nil_append, q_aks, q_als, Nat.reduceAdd, Nat.reduceLeDiff, Nat.zero_le, true_and, and_true, Option.some.injEq, Sum.inl.injEq, Sum.inr.injEq, true_or, or_true, and_self, q_sw]
      rw [hR.1, nI_leI (by omega) (by omega), nI_1]
      refine ⟨fun h => absurd h (by omega), fun _ => ?_⟩
      cases hw : wid Y P i with
      | none =>
        rw [hw] at ih
        exact ⟨fun _ => ih, fun h => absurd rfl h⟩
      | some w =>
        rw [hw] at ih
        dsimp only at ih
        have hwl := wid_lt Y P hw
        refine ⟨fun h => absurd h (i_ne1 (by omega)), fun _ => q_u1 (by decide) (c_roomOf l S hY hR hP (k := i) (by omega)) (q_u1 (by decide) (c_roomOf l S hY hR hP (k := w) (by omega)) ?_)⟩
        rw [rmI_le2 hY hP (by omega) (by omega)]
        refine ⟨fun h => ?_, fun h => ?_⟩
        · rw [if_pos h] at ih; exact ih
        · rw [if_neg h] at ih; exact ih
  refine step 20 [(1, [true, true, true, true, true])] 0 _ _ _ ?_
  simp only [q_vcs, q_vcc, q_vl, q_vu, ↓reduceIte, Nat.reduceEqDiff, Bool.false_eq_true, q_isc, q_mk, q_msk, zbX9_widestLane, q_pad, q_ent, q_get, q_put, q_nl, q_w, List.cons_append, List.nil_append, q_aks, q_als, Nat.reduceAdd, Nat.reduceLeDiff, Nat.zero_le, true_and, and_true, Option.some.injEq, Sum.inl.injEq, Sum.inr.injEq, true_or, or_true, and_self, q_sw]
  exact hL (Y 0 0) 0 (by omega)
/-- those who are out come home, in an order -/
def chome (Y : YD) : List Nat → (Nat → List Nat) → (Nat → List Nat)
  | [], P => P
  | c :: cs, P => match lnof P c with
    | some _ => chome Y cs P
    | none => match wid Y P (Y 0 0) with
      | none => chome Y cs P
      | some k => if (lgt Y c : Int) ≤ rmZ Y P k then chome Y cs (sp P k (c :: P k)) else chome Y cs P
def cho (Y : YD) (P : Nat → List Nat) : Nat → List Nat := chome Y (ordL (homs Y) (Y 1 0)) P
theorem nd_len {r : List Nat} {n : Nat} (hd : r.Nodup) (h : ∀ c ∈ r, c < n) : r.length ≤ n := by
  refine fb_holes n r.length (fun i => r.getD i 0) (fun i hi => ?_) (fun i j hij hj e => ?_)
  · rw [List.getD_eq_getElem?_getD, List.getElem?_eq_getElem hi]
    exact h _ (List.getElem_mem hi)
  · simp only [List.getD_eq_getElem?_getD] at e
    rw [List.getElem?_eq_getElem hj, List.getElem?_eq_getElem (by omega)] at e
    have := (List.getElem_inj hd).mp e
    omega
theorem lnof_none {P : Nat → List Nat} {c : Nat} (h : lnof P c = none) : c ∉ P 0 ∧ c ∉ P 1 ∧ c ∉ P 2 := by
  unfold lnof at h
  split at h
  · cases h
  · split at h
    · cases h
    · split at h
      · cases h
      · exact ⟨by assumption, by assumption, by assumption⟩
theorem lnof_none3 {P : Nat → List Nat} {c k : Nat} (h : lnof P c = none) (hk : k < 3) : c ∉ P k := by
  have := lnof_none h
  match k, hk with
  | 0, _ => exact this.1
  | 1, _ => exact this.2.1
  | 2, _ => exact this.2.2
theorem nd3 {P : Nat → List Nat} : (P 0 ++ (P 1 ++ P 2)).Nodup ↔ (P 0).Nodup ∧ (P 1).Nodup ∧ (P 2).Nodup ∧ (∀ c, ¬ (c ∈ P 0 ∧ c ∈ P 1)) ∧ (∀ c, ¬ (c ∈ P 0 ∧ c ∈ P 2)) ∧ ∀ c, ¬ (c ∈ P 1 ∧ c ∈ P 2) := by
  rw [List.nodup_append, List.nodup_append]
  constructor
  · rintro ⟨h1, ⟨h2, h3, h4⟩, h5⟩
    exact ⟨h1, h2, h3, fun c hc => h5 c hc.1 c (List.mem_append_left _ hc.2) rfl, fun c hc => h5 c hc.1 c (List.mem_append_right _ hc.2) rfl, fun c hc => h4 c hc.1 c hc.2 rfl⟩
  · rintro ⟨h1, h2, h3, h4, h5, h6⟩
    refine ⟨h1, ⟨h2, h3, fun a ha b hb e => h6 a ⟨ha, e ▸ hb⟩⟩, fun a ha b hb e => ?_⟩
    rcases List.mem_append.mp hb with hb | hb
    · exact h4 a ⟨ha, e ▸ hb⟩
    · exact h5 a ⟨ha, e ▸ hb⟩
/-- a car that is out comes to a lane -/
theorem p_in {Y : YD} (hY : y_ok Y) {P : Nat → List Nat} (hP : p_ok Y P) {c k : Nat} (hc : c < Y 1 0) (hn : lnof P c = none) (hk : k < Y 0 0) : p_ok Y (sp P k (c :: P k)) ∧ (P k).length ≤ 5 := by
  have h3 := hY.1
  have h6 := hY.2.1
  obtain ⟨n0, n1, n2⟩ := lnof_none hn
  have hnd := nd3.mp hP.2.2.2
  have hkd := p_nd hP (show k < 3 by omega)
  have hnk := lnof_none3 hn (show k < 3 by omega)
  have hlen : (c :: P k).length ≤ 6 := nd_len (List.nodup_cons.mpr ⟨hnk, hkd⟩) (fun x hx => (List.mem_cons.mp hx).elim (fun e => by omega) (fun h => by have := hP.2.2.1 k x h; omega))
  have hrc : rw_ok (c :: P k) := ⟨hlen, fun x hx => (List.mem_cons.mp hx).elim (fun e => by omega) ((st_row hP.1 (show k < 3 by omega)).2 x)⟩
  refine ⟨⟨sp_ok hP.1 hrc, fun j hj => ?_, fun j x hx => ?_, nd3.mpr ?_⟩, by simp at hlen; omega⟩
  · unfold sp
    rw [if_neg (by omega)]
    exact hP.2.1 j hj
  · unfold sp at hx
    split at hx
    · exact (List.mem_cons.mp hx).elim (fun e => e ▸ hc) (hP.2.2.1 k x)
    · exact hP.2.2.1 j x hx
  · have hcc := List.nodup_cons.mpr ⟨hnk, hkd⟩
    have key : ∀ j, j < 3 → (sp P k (c :: P k) j).Nodup := fun j hj => by
      unfold sp
      split
      · exact hcc
      · exact p_nd hP hj
    have dis : ∀ i j, i < 3 → j < 3 → i ≠ j → (∀ x, ¬ (x ∈ P i ∧ x ∈ P j)) → ∀ x, ¬ (x ∈ sp P k (c :: P k) i ∧ x ∈ sp P k (c :: P k) j) := by
      intro i j hi hj hij hd x hx
      unfold sp at hx
      by_cases ei : i = k
      · have ej : ¬ j = k := by omega
        rw [if_pos ei, if_neg ej] at hx
        rcases List.mem_cons.mp hx.1 with e | e
        · subst e
          exact lnof_none3 hn hj hx.2
        · exact hd x ⟨ei ▸ e, hx.2⟩
      · rw [if_neg ei] at hx
        by_cases ej : j = k
        · rw [if_pos ej] at hx
          rcases List.mem_cons.mp hx.2 with e | e
          · subst e
            exact lnof_none3 hn hi hx.1
          · exact hd x ⟨hx.1, ej ▸ e⟩
        · rw [if_neg ej] at hx
          exact hd x hx
    exact ⟨key 0 (by decide), key 1 (by decide), key 2 (by decide), dis 0 1 (by decide) (by decide) (by decide) hnd.2.2.2.1, dis 0 2 (by decide) (by decide) (by decide) hnd.2.2.2.2.1, dis 1 2 (by decide) (by decide) (by decide) hnd.2.2.2.2.2⟩
theorem c_comeHome (l : Launch) (S : qSt) {y : Nat} {Y : YD} (hY : y_ok Y) (hO : YO S y Y) {P : Nat → List Nat} (hP : p_ok Y P) : q_Met q_mt l 4 k_X9_comeHome 2 [.inr (.inr (3, y)), .inr (.inl (lN (es P)))] S (fun r S' => r = some (.inr (.inl (lN (es (cho Y P))))) ∧ S' = S) := by
  refine q_meth zoX9_comeHome q_fos (Nat.le_of_ble_eq_true rfl) ?_
  intro AT step
  have h6 := hY.2.1
  have h3 := hY.1
  have hL : ∀ (k i : Nat) (P1 : Nat → List Nat), i + k = Y 1 0 → p_ok Y P1 → chome Y ((List.range' i k).map (lvc (homs Y) (Y 1 0))) P1 = cho Y P → AT 1 [some (.inr (.inr (3, y))), some (.inr (.inl (lN (es P)))), none, some (.inr (.inl (lN (es P1)))), none, some (.inl (nI i)), none, none] [] S := by
    intro k
    induction k with
    | zero =>
      intro i P1 hi h1 hs
      refine step 20 [(1, [true, true, true, true, true, true, false, false])] 1 _ _ _ ?_
      simp only [q_vcs, q_vcc, q_vl, q_vu, ↓reduceIte, Nat.reduceEqDiff, Bool.false_eq_true, q_isc, q_mk, q_msk, zbX9_comeHome, q_pad, q_ent, q_get, q_put, q_nl, q_w, List.cons_append, List.nil_append, q_aks, q_als, Nat.reduceAdd, Nat.reduceLeDiff, Nat.zero_le, true_and, and_true, Option.some.injEq, Sum.inl.injEq, Sum.inr.injEq, true_or, or_true, and_self, q_sw]
      rw [hO.1.2.1, nI_leI (by omega) (by omega)]
      refine ⟨fun _ => ?_, fun h => absurd (by omega) h⟩
      rw [← hs]
      rfl
    | succ k ih =>
      intro i P1 hi h1 hs
      have hlv := lvc_spec (homs_ok Y) (show i < Y 1 0 by omega)
      refine step 20 [(1, [true, true, true, true, true, true, false, false])] 1 _ _ _ ?_
      simp only [q_vcs, q_vcc, q_vl, q_vu, ↓reduceIte, Nat.reduceEqDiff, Bool.false_eq_true, q_isc, q_mk, q_msk, zbX9_comeHome, q_pad, q_ent, q_get, q_put, q_nl, q_w, List.cons_append, List.nil_append, q_aks, q_als, Nat.reduceAdd, Nat.reduceLeDiff, Nat.zero_le, true_and, and_true, Option.some.injEq, Sum.inl.injEq, Sum.inr.injEq, true_or, or_true, and_self, q_sw]
      rw [hO.1.2.1, i_cl (by omega), hO.cm (show i < Y 1 0 by omega)]
      rw [List.range'_succ, List.map_cons, chome] at hs
      generalize hce : lvc (homs Y) (Y 1 0) i = c at *
      have ii : vp_in (nI i) 6 := i_in (by omega) (by decide)
      refine ⟨fun h => absurd ((nI_leI (by omega) (by omega)).mp h) (by omega), fun _ => ⟨ii, q_u1 (by decide) (c_laneOf l S h1.1 (c := c) (by omega)) ?_⟩⟩
      rw [nI_1]
      cases hln : lnof P1 c with
      | some k1 =>
        rw [hln] at hs
        have := lnof_lt hln
        exact ⟨fun h => absurd h (i_ne1 (by omega)), fun _ => ih (i + 1) P1 (by omega) h1 hs⟩
      | none =>
        rw [hln] at hs
        refine ⟨fun _ => q_u1 (by decide) (c_widestLane l S hY hO.1 h1.1) ?_, fun h => absurd rfl h⟩
        dsimp only at hs
        cases hw : wid Y P1 (Y 0 0) with
        | none =>
          rw [hw] at hs
          exact ⟨fun _ => ih (i + 1) P1 (by omega) h1 hs, fun h => absurd rfl h⟩
        | some k1 =>
          rw [hw] at hs
          dsimp only at hs
          have hk1 := wid_lt Y P1 hw
          have hl2 := lgt_le hY c
          refine ⟨fun h => absurd h (i_ne1 (by omega)), fun _ => q_u1 (by decide) (c_roomOf l S hY hO.1 h1.1 (k := k1) (by omega)) (q_u1 (by decide) (c_lengthOf l S hY hO.1 (k := c) (by omega)) ?_)⟩
          rw [rmI_lt hY h1.1 (by omega) (by omega)]
          obtain ⟨g1, g2⟩ := p_in hY h1 hlv.1 hln hk1
          refine ⟨fun h => ?_, fun h => q_u2 (by decide) (c_driveIn l S h1.1 (k := k1) (c := c) (by omega) (by omega) g2) ?_⟩
          · rw [if_neg (by omega)] at hs
            exact ih (i + 1) P1 (by omega) h1 hs
          · rw [if_pos (by omega)] at hs
            exact ih (i + 1) _ (by omega) g1 hs
  refine step 20 [(1, [true, true, true, true, true, true, false, false])] 0 _ _ _ ?_
  simp only [q_vcs, q_vcc, q_vl, q_vu, ↓reduceIte, Nat.reduceEqDiff, Bool.false_eq_true, q_isc, q_mk, q_msk, zbX9_comeHome, q_pad, q_ent, q_get, q_put, q_nl, q_w, List.cons_append, List.nil_append, q_aks, q_als, Nat.reduceAdd, Nat.reduceLeDiff, Nat.zero_le, true_and, and_true, Option.some.injEq, Sum.inl.injEq, Sum.inr.injEq, true_or, or_true, and_self, q_sw]
  refine hL (Y 1 0) 0 P (by omega) hP ?_
  rw [← List.range_eq_range']
  rfl
