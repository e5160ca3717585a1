/-! Days -/
def drw (x : Int32) : Int32 := x * 1103515245 + 12345
def drv (x : Int32) : Nat := x.toBitVec.toNat / 65536 % 32768
theorem i_drv (x : Int32) : (x.toUInt32 >>> ((16 : Int32).toUInt32 &&& Int32.toUInt32 31)).toInt32 &&& 32767 = nI (drv x) := by
  have h := pk_ushr x 16 16 (by decide)
  have := pk_and ((x.toUInt32 >>> ((16 : Int32).toUInt32 &&& Int32.toUInt32 31)).toInt32) (m := 32767) 15 (by decide)
  rw [this, h]
  rfl
theorem drv_lt (x : Int32) : drv x < 32768 := Nat.mod_lt _ (by decide)
theorem c_draw (l : Launch) (S : qSt) {i n : Nat} (h0 : 0 < n) (hn : n < 2 ^ 31) : q_Met q_mt l 0 k_X0_draw 1 [.inr (.inr (33, i)), .inl (nI n)] S (fun v S' => v = some (.inl (nI (drv (drw (q_I S 33 i 0)) % n))) ∧ S' = q_wI S 33 i 0 (drw (q_I S 33 i 0))) := by
  refine q_meth zoX0_draw q_fos (Nat.le_of_ble_eq_true rfl) ?_
  intro AT step
  refine step 40 [] 0 _ _ _ ?_
  simp only [q_vcs, q_vcc, q_vl, q_vu, ↓reduceIte, Nat.reduceEqDiff, Bool.false_eq_true, q_isc, q_mk, q_msk, zbX0_draw, q_pad, q_ent, q_get, q_put, q_nl, q_w, List.cons_append, List.nil_append, q_aks, q_als, Nat.reduceAdd, Nat.reduceLeDiff, Nat.zero_le, true_and, and_true, Option.some.injEq, Sum.inl.injEq, Sum.inr.injEq, true_or, or_true, and_self, q_sw]
  rw [q_I_wI, if_pos ⟨rfl, rfl, rfl⟩]
  refine ⟨fun _ => ⟨nI_ne0 h0 hn, ?_, rfl⟩, fun h => absurd (Int32.not_le.mp (nI_nle h0 hn)) h⟩
  have := drv_lt (drw (q_I S 33 i 0))
  have e := i_drv (drw (q_I S 33 i 0))
  unfold drw at e
  rw [e]
  have := i_rem (a := drv (drw (q_I S 33 i 0))) (d := n) (by omega) h0 hn
  unfold drw at this
  exact this
/-- who is ill, by a seed; the seed then -/
def drI (Y : YD) (q : Nat) (x : Int32) : Option Nat := if drv (drw x) % 16 < q ∧ 0 < Y 1 0 then some (drv (drw (drw x)) % Y 1 0) else none
def drS (Y : YD) (q : Nat) (x : Int32) : Int32 := if drv (drw x) % 16 < q ∧ 0 < Y 1 0 then drw (drw x) else drw x
theorem c_drawIll (l : Launch) (S : qSt) {i y q : Nat} {Y : YD} (hY : y_ok Y) (hR : YR S y Y) (hq : q ≤ 16) : q_Met q_mt l 1 k_X0_drawIll 1 [.inr (.inr (33, i)), .inr (.inr (3, y)), .inl (nI q)] S (fun v S' => v = some (.inl (oI (drI Y q (q_I S 33 i 0)))) ∧ q_I S' 33 i 0 = drS Y q (q_I S 33 i 0) ∧ (∀ j, j ≠ 0 → q_I S' 33 i j = q_I S 33 i j) ∧ q_L S' 33 i = q_L S 33 i ∧ fr (fun f j => f = 33 ∧ j = i) S S') := by
  refine q_meth zoX0_drawIll q_fos (Nat.le_of_ble_eq_true rfl) ?_
  intro AT step
  have h6 := hY.2.1
  refine step 40 [] 0 _ _ _ ?_
  simp only [q_vcs, q_vcc, q_vl, q_vu, ↓reduceIte, Nat.reduceEqDiff, Bool.false_eq_true, q_isc, q_mk, q_msk, zbX0_drawIll, q_pad, q_ent, q_get, q_put, q_nl, q_w, List.cons_append, List.nil_append, q_aks, q_als, Nat.reduceAdd, Nat.reduceLeDiff, Nat.zero_le, true_and, and_true, Option.some.injEq, Sum.inl.injEq, Sum.inr.injEq, true_or, or_true, and_self, q_sw]
  refine q_u1 (by decide) (c_draw l S (i := i) (n := 16) (by decide) (by decide)) ?_
  have hf : fr (fun f j => f = 33 ∧ j = i) S (q_wI S 33 i 0 (drw (q_I S 33 i 0))) := fr.wI fr.rf ⟨rfl, rfl⟩
  have hR1 := hR.fr hf (fun f h1 h2 h => by have := h.1; omega)
  have hd : drv (drw (q_I S 33 i 0)) % 16 < 16 := Nat.mod_lt _ (by decide)
  rw [nI_leI (by omega) (by omega), hR1.2.1]
  have hno : ¬ (drv (drw (q_I S 33 i 0)) % 16 < q ∧ 0 < Y 1 0) → -1 = oI (drI Y q (q_I S 33 i 0)) ∧ q_I (q_wI S 33 i 0 (drw (q_I S 33 i 0))) 33 i 0 = drS Y q (q_I S 33 i 0) ∧ (∀ j, j ≠ 0 → q_I (q_wI S 33 i 0 (drw (q_I S 33 i 0))) 33 i j = q_I S 33 i j) ∧ q_L (q_wI S 33 i 0 (drw (q_I S 33 i 0))) 33 i = q_L S 33 i ∧ fr (fun f j => f = 33 ∧ j = i) S (q_wI S 33 i 0 (drw (q_I S 33 i 0))) := by
    intro h
    unfold drI drS
    rw [if_neg h, if_neg h]
    exact ⟨rfl, by rw [q_I_wI, if_pos ⟨rfl, rfl, rfl⟩], fun j hj => by rw [q_I_wI, if_neg (fun q => hj q.2.2)], rfl, hf⟩
  refine ⟨fun h => hno (by omega), fun h => ⟨fun h0 => ?_, fun h0 => hno (fun q => ?_)⟩⟩
  · have h0' : 0 < Y 1 0 := by
      rcases Nat.eq_zero_or_pos (Y 1 0) with e | e
      · rw [e] at h0; exact absurd rfl h0
      · exact e
    refine q_u1 (by decide) (c_draw l _ (i := i) (n := Y 1 0) h0' (by omega)) ?_
    rw [q_I_wI, if_pos ⟨rfl, rfl, rfl⟩]
    unfold drI drS
    rw [if_pos ⟨by omega, h0'⟩, if_pos ⟨by omega, h0'⟩]
    exact ⟨rfl, by rw [q_I_wI, if_pos ⟨rfl, rfl, rfl⟩], fun j hj => by rw [q_I_wI, if_neg (fun q => hj q.2.2), q_I_wI, if_neg (fun q => hj q.2.2)], rfl, fr.wI hf ⟨rfl, rfl⟩⟩
  · exact nI_ne0 q.2 (by omega) h0
/-- all leave a lane, up to the one that is ill -/
def dpw (o : Option Nat) (r : List Nat) : List Nat := r.dropWhile (fun c => decide (some c ≠ o))
theorem dpw_suf (o : Option Nat) (r : List Nat) : dpw o r <:+ r := List.dropWhile_suffix _
theorem c_letLaneOut (l : Launch) (S : qSt) {i k : Nat} {o : Option Nat} {P : Nat → List Nat} {n : Nat} (hP : st_ok P) (hk : k < 3) (ho : ∀ c, o = some c → c < 2 ^ 31) (hS : q_L S 33 i 1 = lN (es P)) (hn : q_I S 33 i 2 = nI n) : q_Met q_mt l 3 k_X0_letLaneOut 0 [.inr (.inr (33, i)), .inl (nI k), .inl (oI o)] S (fun _ S' => q_L S' 33 i 1 = lN (es (sp P k (dpw o (P k)))) ∧ q_I S' 33 i 2 = nI (n + ((P k).length - (dpw o (P k)).length)) ∧ (∀ j, j ≠ 2 → q_I S' 33 i j = q_I S 33 i j) ∧ fr (fun f j => f = 33 ∧ j = i) S S') := by
  refine q_meth zoX0_letLaneOut q_fos (Nat.le_of_ble_eq_true rfl) ?_
  intro AT step
  have hL : ∀ (r : List Nat) (j m : Nat) (S1 : qSt), j + r.length ≤ 6 → rw_ok r → q_L S1 33 i 1 = lN (es (sp P k r)) → q_I S1 33 i 2 = nI m → dpw o r = dpw o (P k) → m + r.length = n + (P k).length → (∀ j, j ≠ 2 → q_I S1 33 i j = q_I S 33 i j) → fr (fun f j => f = 33 ∧ j = i) S S1 → AT 1 [some (.inr (.inr (33, i))), some (.inl (nI k)), some (.inl (oI o)), some (.inl (nI j)), none] [] S1 := by
    intro r
    induction r with
    | nil =>
      intro j m S1 hj hr h1 h2 h3 h4 h5 h6
      have hsp : st_ok (sp P k []) := sp_ok hP hr
      have fin : q_L S1 33 i 1 = lN (es (sp P k (dpw o (P k)))) ∧ q_I S1 33 i 2 = nI (n + ((P k).length - (dpw o (P k)).length)) ∧ (∀ j, j ≠ 2 → q_I S1 33 i j = q_I S 33 i j) ∧ fr (fun f j => f = 33 ∧ j = i) S S1 := by
        rw [← h3]
        refine ⟨h1, ?_, h5, h6⟩
        have e : m = n + ((P k).length - (dpw o []).length) := by
          simp only [List.length_nil] at h4
          show m = n + ((P k).length - 0)
          omega
        rw [h2, e]
      refine step 40 [(1, [true, true, true, true, false])] 1 _ _ _ ?_
      simp only [q_vcs, q_vcc, q_vl, q_vu, ↓reduceIte, Nat.reduceEqDiff, Bool.false_eq_true, q_isc, q_mk, q_msk, zbX0_letLaneOut, q_pad, q_ent, q_get, q_put, q_nl, q_w, List.cons_append, List.nil_append, q_aks, q_als, Nat.reduceAdd, Nat.reduceLeDiff, Nat.zero_le, true_and, and_true, Option.some.injEq, Sum.inl.injEq, Sum.inr.injEq, true_or, or_true, and_self, q_sw]
      refine ⟨fun _ => fin, fun _ => ?_⟩
      rw [h1]
      refine q_u1 (by decide) (c_frontOf l S1 hsp hk) ?_
      have e : (sp P k [] k).head? = none := by simp [sp]
      rw [e]
      exact ⟨fun _ => fin, fun h => absurd rfl h⟩
    | cons c r ih =>
      intro j m S1 hj hr h1 h2 h3 h4 h5 h6
      have hsp : st_ok (sp P k (c :: r)) := sp_ok hP hr
      simp only [List.length_cons] at hj h4
      refine step 40 [(1, [true, true, true, true, false])] 1 _ _ _ ?_
      simp only [q_vcs, q_vcc, q_vl, q_vu, ↓reduceIte, Nat.reduceEqDiff, Bool.false_eq_true, q_isc, q_mk, q_msk, zbX0_letLaneOut, q_pad, q_ent, q_get, q_put, q_nl, q_w, List.cons_append, List.nil_append, q_aks, q_als, Nat.reduceAdd, Nat.reduceLeDiff, Nat.zero_le, true_and, and_true, Option.some.injEq, Sum.inl.injEq, Sum.inr.injEq, true_or, or_true, and_self, q_sw]
      have hc6 := hr.2 c List.mem_cons_self
      refine ⟨fun h => ?_, fun _ => ?_⟩
      · rw [show (6 : Int32) = nI 6 from rfl, nI_leI (by omega) (by omega)] at h
        omega
      rw [h1]
      refine q_u1 (by decide) (c_frontOf l S1 hsp hk) ?_
      have e : (sp P k (c :: r) k).head? = some c := by simp [sp]
      rw [h1, e, oI_eq (fun x hx => by cases hx; omega) ho]
      refine ⟨fun h => absurd h (i_ne1 (by omega)), fun _ => ⟨fun h => ?_, fun h => ?_⟩⟩
      · refine q_u2 (by decide) (c_driveOut l S1 hsp hk) ?_
        have e2 : sp (sp P k (c :: r)) k (sp P k (c :: r) k).tail = sp P k r := by
          funext x
          simp only [sp]
          split <;> simp
        rw [e2]
        have hq : q_I (q_wL S1 33 i 1 (lN (es (sp P k r)))) 33 i 2 = nI m := h2
        rw [hq, nI_1, nI_1]
        refine ih (j + 1) (m + 1) _ (by omega) ⟨by have := hr.1; simp at this; omega, fun x hx => hr.2 x (List.mem_cons_of_mem _ hx)⟩ ?_ ?_ ?_ (by omega) (fun x hx => ?_) (fr.wI (fr.wL h6 ⟨rfl, rfl⟩) ⟨rfl, rfl⟩)
        · show q_L (q_wL S1 33 i 1 _) 33 i 1 = _
          rw [q_L_wL, if_pos ⟨rfl, rfl, rfl⟩]
        · rw [q_I_wI, if_pos ⟨rfl, rfl, rfl⟩]
        · rw [← h3]
          show _ = List.dropWhile _ _
          rw [List.dropWhile_cons, if_pos (by simpa using h)]
          rfl
        · rw [q_I_wI, if_neg (fun q => hx q.2.2)]
          exact h5 x hx
      · have e3 : dpw o (P k) = c :: r := by
          rw [← h3]
          unfold dpw
          rw [List.dropWhile_cons, if_neg (by simpa using h)]
        rw [e3]
        refine ⟨rfl, ?_, h5, h6⟩
        have e : m = n + ((P k).length - (c :: r).length) := by
          simp only [List.length_cons]
          have := (dpw_suf o (P k)).length_le
          rw [e3] at this
          simp only [List.length_cons] at this
          omega
        rw [h2, e]
  refine step 40 [(1, [true, true, true, true, false])] 0 _ _ _ ?_
  simp only [q_vcs, q_vcc, q_vl, q_vu, ↓reduceIte, Nat.reduceEqDiff, Bool.false_eq_true, q_isc, q_mk, q_msk, zbX0_letLaneOut, q_pad, q_ent, q_get, q_put, q_nl, q_w, List.cons_append, List.nil_append, q_aks, q_als, Nat.reduceAdd, Nat.reduceLeDiff, Nat.zero_le, true_and, and_true, Option.some.injEq, Sum.inl.injEq, Sum.inr.injEq, true_or, or_true, and_self, q_sw]
  have hr := st_row hP hk
  refine hL (P k) 0 n S (by have := hr.1; omega) hr ?_ hn rfl rfl (fun _ _ => rfl) fr.rf
  have : sp P k (P k) = P := by
    funext x
    simp only [sp]
    split
    · rename_i e; rw [e]
    · rfl
  rw [this]
  exact hS
/-- the lanes below n let out -/
def dln (o : Option Nat) : Nat → (Nat → List Nat) → (Nat → List Nat)
  | 0, P => P
  | n + 1, P => sp (dln o n P) n (dpw o (P n))
def dlc (o : Option Nat) (P : Nat → List Nat) (n : Nat) : Nat := fb_sm (fun k => (P k).length - (dpw o (P k)).length) n
theorem dln_ge (o : Option Nat) (P : Nat → List Nat) : ∀ {n k : Nat}, n ≤ k → dln o n P k = P k
  | 0, k, _ => rfl
  | n + 1, k, h => by
    show sp (dln o n P) n _ k = _
    unfold sp
    rw [if_neg (by omega)]
    exact dln_ge o P (by omega)
theorem sp_suf {Y : YD} {P : Nat → List Nat} (hP : p_ok Y P) {k : Nat} (hk : k < 3) {r : List Nat} (hr : r <:+ P k) : p_ok Y (sp P k r) := by
  have hnd := nd3.mp hP.2.2.2
  have sub : ∀ j x, x ∈ sp P k r j → x ∈ P j := fun j x hx => by
    unfold sp at hx
    split at hx
    · rename_i e; rw [e]; exact hr.subset hx
    · exact hx
  have nds : ∀ j, j < 3 → (sp P k r j).Nodup := fun j hj => by
    unfold sp
    split
    · exact (p_nd hP hk).sublist hr.sublist
    · exact p_nd hP hj
  have hrk := st_row hP.1 hk
  refine ⟨sp_ok hP.1 ⟨Nat.le_trans hr.length_le hrk.1, fun c hc => hrk.2 c (hr.subset hc)⟩, fun j hj => ?_, fun j x hx => hP.2.2.1 j x (sub j x hx), nd3.mpr ⟨nds 0 (by decide), nds 1 (by decide), nds 2 (by decide), fun c hc => hnd.2.2.2.1 c ⟨sub 0 c hc.1, sub 1 c hc.2⟩, fun c hc => hnd.2.2.2.2.1 c ⟨sub 0 c hc.1, sub 2 c hc.2⟩, fun c hc => hnd.2.2.2.2.2 c ⟨sub 1 c hc.1, sub 2 c hc.2⟩⟩⟩
  unfold sp
  split
  · rename_i e
    have := hP.2.1 j hj
    rw [e] at this
    rw [this] at hr
    exact List.suffix_nil.mp hr
  · exact hP.2.1 j hj
theorem dln_ok {Y : YD} {P : Nat → List Nat} (hP : p_ok Y P) (o : Option Nat) : ∀ n, n ≤ 3 → p_ok Y (dln o n P)
  | 0, _ => hP
  | n + 1, h => sp_suf (dln_ok hP o n (by omega)) (by omega) (by rw [dln_ge o P (Nat.le_refl n)]; exact dpw_suf o _)
/-- a day: seed, stand, who left, who was ill -/
abbrev DV : Type := Int32 × (Nat → List Nat) × Nat × Nat
def illc (P : Nat → List Nat) (o : Option Nat) : Nat := match o with
  | some c => if (lnof P c).isSome then 1 else 0
  | none => 0
def day1 (Y : YD) (q : Nat) (s : DV) : DV := (drS Y q s.1, cho Y (dln (drI Y q s.1) (Y 0 0) s.2.1), s.2.2.1 + dlc (drI Y q s.1) s.2.1 (Y 0 0), s.2.2.2 + illc s.2.1 (drI Y q s.1))
def dayn (Y : YD) (q : Nat) : Nat → DV → DV
  | 0, s => s
  | n + 1, s => day1 Y q (dayn Y q n s)
def DR (S : qSt) (i : Nat) (s : DV) : Prop := q_I S 33 i 0 = s.1 ∧ q_L S 33 i 1 = lN (es s.2.1) ∧ q_I S 33 i 2 = nI s.2.2.1 ∧ q_I S 33 i 3 = nI s.2.2.2
theorem chome_ok {Y : YD} (hY : y_ok Y) : ∀ {cs : List Nat} {P : Nat → List Nat}, (∀ c ∈ cs, c < Y 1 0) → p_ok Y P → p_ok Y (chome Y cs P)
  | [], P, _, hP => hP
  | c :: cs, P, hc, hP => by
    have hcs : ∀ c ∈ cs, c < Y 1 0 := fun x hx => hc x (List.mem_cons_of_mem _ hx)
    unfold chome
    cases hl : lnof P c with
    | some k => exact chome_ok hY hcs hP
    | none =>
      dsimp only
      cases hw : wid Y P (Y 0 0) with
      | none => exact chome_ok hY hcs hP
      | some k =>
        dsimp only
        split
        · exact chome_ok hY hcs (p_in hY hP (hc c List.mem_cons_self) hl (wid_lt Y P hw)).1
        · exact chome_ok hY hcs hP
theorem cho_ok {Y : YD} (hY : y_ok Y) {P : Nat → List Nat} (hP : p_ok Y P) : p_ok Y (cho Y P) := chome_ok hY (fun _ h => (ord_mem (homs_ok Y)).mp h) hP
theorem dayn_ok {Y : YD} (hY : y_ok Y) (q : Nat) {s : DV} (h : p_ok Y s.2.1) : ∀ n, p_ok Y (dayn Y q n s).2.1
  | 0 => h
  | n + 1 => cho_ok hY (dln_ok (dayn_ok hY q h n) _ _ hY.1)
theorem drI_lt {Y : YD} (hY : y_ok Y) {q : Nat} {x : Int32} : ∀ c, drI Y q x = some c → c < Y 1 0 := fun c h => by
  unfold drI at h
  split at h
  · rename_i hh
    cases h
    exact Nat.mod_lt _ hh.2
  · cases h
set_option maxHeartbeats 1000000 in
theorem c_daysRun (l : Launch) (S : qSt) {i y q n : Nat} {Y : YD} (hY : y_ok Y) (hO : YO S y Y) {P : Nat → List Nat} (hP : p_ok Y P) (x : Int32) (hq : q ≤ 16) (hn : n < 2 ^ 20) : q_Met q_mt l 5 k_X0_run 0 [.inr (.inr (33, i)), .inr (.inr (3, y)), .inr (.inl (lN (es P))), .inl x, .inl (nI n), .inl (nI q)] S (fun _ S' => DR S' i (dayn Y q n (x, P, 0, 0)) ∧ fr (fun f j => f = 33 ∧ j = i) S S') := by
  refine q_meth zoX0_run q_fos (Nat.le_of_ble_eq_true rfl) ?_
  intro AT step
  have h6 := hY.2.1
  have h3 := hY.1
  have hnF : ∀ f, 3 ≤ f → f ≤ 11 → ¬ (fun f j => f = 33 ∧ j = i) f y := fun f h1 h2 h => by have := h.1; omega
  have hL : ∀ (k d : Nat) (S1 : qSt), d + k = n → fr (fun f j => f = 33 ∧ j = i) S S1 → DR S1 i (dayn Y q d (x, P, 0, 0)) → AT 1 [some (.inr (.inr (33, i))), some (.inr (.inr (3, y))), some (.inr (.inl (lN (es P)))), none, some (.inl x), some (.inl (nI n)), some (.inl (nI q)), some (.inl (nI d)), none, none] [] S1 := by
    intro k
    induction k with
    | zero =>
      intro d S1 hd hf hD
      refine step 40 [(1, [true, true, true, true, true, true, true, true, false, false]), (3, [true, true, true, true, true, true, true, true, true, true])] 1 _ _ _ ?_
      simp only [q_vcs, q_vcc, q_vl, q_vu, ↓reduceIte, Nat.reduceEqDiff, Bool.false_eq_true, q_isc, q_mk, q_msk, zbX0_run, q_pad, q_ent, q_get, q_put, q_nl, q_w, List.cons_append, List.nil_append, q_aks, q_als, Nat.reduceAdd, Nat.reduceLeDiff, Nat.zero_le, true_and, and_true, Option.some.injEq, Sum.inl.injEq, Sum.inr.injEq, true_or, or_true, and_self, q_sw]
      rw [nI_leI (by omega) (by omega)]
      refine ⟨fun _ => ?_, fun h => absurd (by omega) h⟩
      rw [show d = n by omega] at hD
      exact ⟨hD, hf⟩
    | succ k ih =>
      intro d S1 hd hf hD
      have hO1 := hO.fr hf hnF
      have hPd : p_ok Y (dayn Y q d (x, P, 0, 0)).2.1 := dayn_ok hY q hP d
      have ih := ih (d + 1)
      rw [show dayn Y q (d + 1) (x, P, 0, 0) = day1 Y q (dayn Y q d (x, P, 0, 0)) from rfl] at ih
      generalize dayn Y q d (x, P, 0, 0) = s at hD hPd ih
      obtain ⟨s0, s1, s2, s3⟩ := s
      obtain ⟨d0, d1, d2, d3⟩ := hD
      dsimp only at d0 d1 d2 d3 hPd
      have hI : ∀ (m j : Nat) (S2 : qSt), j + m = Y 0 0 → fr (fun f j => f = 33 ∧ j = i) S S2 → q_I S2 33 i 0 = drS Y q s0 → q_L S2 33 i 1 = lN (es (dln (drI Y q s0) j s1)) → q_I S2 33 i 2 = nI (s2 + dlc (drI Y q s0) s1 j) → q_I S2 33 i 3 = nI (day1 Y q (s0, s1, s2, s3)).2.2.2 → AT 3 [some (.inr (.inr (33, i))), some (.inr (.inr (3, y))), some (.inr (.inl (lN (es P)))), none, some (.inl x), some (.inl (nI n)), some (.inl (nI q)), some (.inl (nI d)), some (.inl (oI (drI Y q s0))), some (.inl (nI j))] [] S2 := by
        intro m
        induction m with
        | zero =>
          intro j S2 hj hf2 e0 e1 e2 e3
          have hO2 := hO.fr hf2 hnF
          have e : j = Y 0 0 := by omega
          subst e
          have hok := dln_ok hPd (drI Y q s0) (Y 0 0) h3
          refine step 40 [(1, [true, true, true, true, true, true, true, true, false, false]), (3, [true, true, true, true, true, true, true, true, true, true])] 3 _ _ _ ?_
          simp only [q_vcs, q_vcc, q_vl, q_vu, ↓reduceIte, Nat.reduceEqDiff, Bool.false_eq_true, q_isc, q_mk, q_msk, zbX0_run, q_pad, q_ent, q_get, q_put, q_nl, q_w, List.cons_append, List.nil_append, q_aks, q_als, Nat.reduceAdd, Nat.reduceLeDiff, Nat.zero_le, true_and, and_true, Option.some.injEq, Sum.inl.injEq, Sum.inr.injEq, true_or, or_true, and_self, q_sw]
          rw [hO2.1.1, nI_leI (by omega) (by omega), e1, nI_1]
          refine ⟨fun _ => q_u2 (by decide) (c_comeHome l S2 hY hO2 hok) ?_, fun h => absurd (by omega) h⟩
          refine ih _ (by omega) (fr.wL hf2 ⟨rfl, rfl⟩) ⟨e0, ?_, e2, e3⟩
          rw [q_L_wL, if_pos ⟨rfl, rfl, rfl⟩]
          rfl
        | succ m im =>
          intro j S2 hj hf2 e0 e1 e2 e3
          have hO2 := hO.fr hf2 hnF
          have hok := dln_ok hPd (drI Y q s0) j (by omega)
          refine step 40 [(1, [true, true, true, true, true, true, true, true, false, false]), (3, [true, true, true, true, true, true, true, true, true, true])] 3 _ _ _ ?_
          simp only [q_vcs, q_vcc, q_vl, q_vu, ↓reduceIte, Nat.reduceEqDiff, Bool.false_eq_true, q_isc, q_mk, q_msk, zbX0_run, q_pad, q_ent, q_get, q_put, q_nl, q_w, List.cons_append, List.nil_append, q_aks, q_als, Nat.reduceAdd, Nat.reduceLeDiff, Nat.zero_le, true_and, and_true, Option.some.injEq, Sum.inl.injEq, Sum.inr.injEq, true_or, or_true, and_self, q_sw]
          rw [hO2.1.1, nI_leI (by omega) (by omega), nI_1]
          refine ⟨fun h => absurd h (by omega), fun _ => ⟨_, _, (by decide : 3 < 5), c_letLaneOut l S2 hok.1 (k := j) (by omega) (fun c hc => by have := drI_lt hY c hc; omega) e1 e2, fun S3 h => ?_⟩⟩
          obtain ⟨g1, g2, g3, g4⟩ := h
          rw [nI_1]
          rw [dln_ge _ _ (Nat.le_refl j)] at g1 g2
          refine im (j + 1) S3 (by omega) (hf2.tr g4) (by rw [g3 0 (by decide)]; exact e0) g1 ?_ (by rw [g3 3 (by decide)]; exact e3)
          rw [g2]
          congr 1
          show _ = s2 + fb_sm _ (j + 1)
          rw [fb_sm_succ]
          show s2 + fb_sm _ j + _ = _
          omega
      refine step 40 [(1, [true, true, true, true, true, true, true, true, false, false]), (3, [true, true, true, true, true, true, true, true, true, true])] 1 _ _ _ ?_
      simp only [q_vcs, q_vcc, q_vl, q_vu, ↓reduceIte, Nat.reduceEqDiff, Bool.false_eq_true, q_isc, q_mk, q_msk, zbX0_run, q_pad, q_ent, q_get, q_put, q_nl, q_w, List.cons_append, List.nil_append, q_aks, q_als, Nat.reduceAdd, Nat.reduceLeDiff, Nat.zero_le, true_and, and_true, Option.some.injEq, Sum.inl.injEq, Sum.inr.injEq, true_or, or_true, and_self, q_sw]
      rw [nI_leI (by omega) (by omega)]
      refine ⟨fun h => absurd h (by omega), fun _ => ⟨_, _, (by decide : 1 < 5), c_drawIll l S1 (i := i) hY hO1.1 hq, fun v S2 h => ?_⟩⟩
      obtain ⟨hv, g0, g1, g2, g4⟩ := h
      cases hv
      rw [d0] at g0 ⊢
      have f2 : fr (fun f j => f = 33 ∧ j = i) S S2 := hf.tr g4
      have l1 : q_L S2 33 i 1 = lN (es s1) := by rw [g2]; exact d1
      have l2 : q_I S2 33 i 2 = nI s2 := by rw [g1 2 (by decide)]; exact d2
      have l3 : q_I S2 33 i 3 = nI s3 := by rw [g1 3 (by decide)]; exact d3
      rw [l1]
      have hz : (day1 Y q (s0, s1, s2, s3)).2.2.2 = s3 + illc s1 (drI Y q s0) := rfl
      cases hdi : drI Y q s0 with
      | none =>
        rw [hdi] at hI
        refine ⟨fun _ => ?_, fun h => absurd rfl h⟩
        refine hI (Y 0 0) 0 S2 (by omega) f2 g0 l1 l2 ?_
        rw [hz, hdi]
        exact l3
      | some c =>
        rw [hdi] at hI
        have hc := drI_lt hY c hdi
        rw [hz, hdi, show illc s1 (some c) = if (lnof s1 c).isSome then 1 else 0 from rfl] at hI
        refine ⟨fun h => absurd h (i_ne1 (by omega)), fun _ => q_u1 (by decide) (c_laneOf l S2 hPd.1 (c := c) (by omega)) ?_⟩
        cases hln : lnof s1 c with
        | none =>
          rw [hln] at hI
          exact ⟨fun _ => hI (Y 0 0) 0 S2 (by omega) f2 g0 l1 l2 l3, fun h => absurd rfl h⟩
        | some k1 =>
          rw [hln] at hI
          have hk1 := (lnof_lt hln).1
          refine ⟨fun h => absurd h (i_ne1 (by omega)), fun _ => ?_⟩
          rw [l3, nI_1]
          refine hI (Y 0 0) 0 _ (by omega) (fr.wI f2 ⟨rfl, rfl⟩) ?_ l1 ?_ ?_
          · rw [q_I_wI, if_neg (by omega)]; exact g0
          · rw [q_I_wI, if_neg (by omega)]; exact l2
          · rw [q_I_wI, if_pos ⟨rfl, rfl, rfl⟩]
            simp
  refine step 40 [(1, [true, true, true, true, true, true, true, true, false, false]), (3, [true, true, true, true, true, true, true, true, true, true])] 0 _ _ _ ?_
  simp only [q_vcs, q_vcc, q_vl, q_vu, ↓reduceIte, Nat.reduceEqDiff, Bool.false_eq_true, q_isc, q_mk, q_msk, zbX0_run, q_pad, q_ent, q_get, q_put, q_nl, q_w, List.cons_append, List.nil_append, q_aks, q_als, Nat.reduceAdd, Nat.reduceLeDiff, Nat.zero_le, true_and, and_true, Option.some.injEq, Sum.inl.injEq, Sum.inr.injEq, true_or, or_true, and_self, q_sw]
  refine hL n 0 _ (by omega) (fr.wI (fr.wI (fr.wL (fr.wI fr.rf ⟨rfl, rfl⟩) ⟨rfl, rfl⟩) ⟨rfl, rfl⟩) ⟨rfl, rfl⟩) ⟨?_, ?_, ?_, ?_⟩
  · simp [q_I_wI, q_I_wL]
    rfl
  · simp [q_L_wI, q_L_wL]
    rfl
  · simp [q_I_wI, q_I_wL]
    rfl
  · simp [q_I_wI, q_I_wL]
    rfl
