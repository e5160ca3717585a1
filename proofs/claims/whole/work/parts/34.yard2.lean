/-! Yard: pairs, who is next, who leaves -/
/-- cars that stand in yard Y as P -/
def p_ok (Y : YD) (P : Nat → List Nat) : Prop := st_ok P ∧ (∀ k, Y 0 0 ≤ k → P k = []) ∧ (∀ k c, c ∈ P k → c < Y 1 0) ∧ (P 0 ++ (P 1 ++ P 2)).Nodup
theorem p_nd {Y : YD} {P : Nat → List Nat} (h : p_ok Y P) {k : Nat} (hk : k < 3) : (P k).Nodup := by
  have hd := List.nodup_append.mp h.2.2.2
  have hd2 := List.nodup_append.mp hd.2.1
  match k, hk with
  | 0, _ => exact hd.1
  | 1, _ => exact hd2.1
  | 2, _ => exact hd2.2.1
theorem dg_get {P : Nat → List Nat} (h : st_ok P) {k i : Nat} (hk : k < 3) (hi : i < 6) : es P / 8 ^ (6 * k + i) % 8 = match (P k)[i]? with
    | some c => c + 1
    | none => 0 := by
  have h1 := es_row h hk
  have hr := st_row h hk
  have e : es P / 8 ^ (6 * k + i) % 8 = (es P / 2 ^ (18 * k) % 2 ^ 18) / 8 ^ i % 8 := by
    have p1 : (2 : Nat) ^ (18 * k) = 8 ^ (6 * k) := by rw [show 18 * k = 3 * (6 * k) by omega, Nat.pow_mul]
    have p2 : (2 : Nat) ^ 18 = 8 ^ i * 8 ^ (6 - i) := by rw [← Nat.pow_add, show i + (6 - i) = 6 by omega]
    have p3 : (8 : Nat) ^ (6 - i) = 8 * 8 ^ (5 - i) := by rw [show 6 - i = (5 - i) + 1 by omega, Nat.pow_succ, Nat.mul_comm]
    rw [p1, p2, Nat.mod_mul_right_div_self, Nat.div_div_eq_div_mul, ← Nat.pow_add, p3, Nat.mod_mul_right_mod]
  rw [e, h1, er_drop hr.2]
  cases hd : (P k)[i]? with
  | none =>
    rw [List.drop_eq_nil_of_le (List.getElem?_eq_none_iff.mp hd)]
    rfl
  | some c =>
    obtain ⟨hlt, hc⟩ := List.getElem?_eq_some_iff.mp hd
    have hc6 : c < 6 := hr.2 c (List.mem_of_getElem? hd)
    rw [List.drop_eq_getElem_cons hlt, hc]
    simp only [er]
    omega
/-- for each car those behind it that leave sooner, up to b -/
def bk (Y : YD) (b : Nat) : List Nat → Nat
  | [] => 0
  | c :: r => min b (r.countP (fun x => soon Y x c)) + bk Y b r
def bks (Y : YD) (b : Nat) (P : Nat → List Nat) : Nat := bk Y b (P 0) + (bk Y b (P 1) + bk Y b (P 2))
def ctb (Y : YD) (b : Nat) (r : List Nat) (i : Nat) : Nat := match r[i]? with
  | some c => min b ((r.drop (i + 1)).countP (fun x => soon Y x c))
  | none => 0
theorem ctb_sum (Y : YD) (b : Nat) : ∀ (n : Nat) (r : List Nat), r.length ≤ n → fb_sm (ctb Y b r) n = bk Y b r := by
  have shift : ∀ (f : Nat → Nat) (n : Nat), fb_sm f (n + 1) = f 0 + fb_sm (fun i => f (i + 1)) n := by
    intro f n
    induction n with
    | zero => simp [fb_sm]
    | succ n ih => rw [fb_sm_succ, ih, fb_sm_succ]; omega
  intro n
  induction n with
  | zero =>
    intro r hr
    cases r with
    | nil => rfl
    | cons c r => simp at hr
  | succ n ih =>
    intro r hr
    rw [shift]
    cases r with
    | nil =>
      have : fb_sm (fun i => ctb Y b [] (i + 1)) n = 0 := by
        have := ih [] (by simp)
        exact this
      rw [this]
      rfl
    | cons c r =>
      have := ih r (by simp at hr; omega)
      rw [bk, ← this]
      rfl
def cts (Y : YD) (b : Nat) (P : Nat → List Nat) (s : Nat) : Nat := ctb Y b (P (s / 6)) (s % 6)
theorem cts_sum {Y : YD} {P : Nat → List Nat} (h : st_ok P) (b : Nat) : fb_sm (cts Y b P) 18 = bks Y b P := by
  have e : ∀ k, k < 3 → fb_sm (fun i => cts Y b P (6 * k + i)) 6 = bk Y b (P k) := by
    intro k hk
    rw [← ctb_sum Y b 6 (P k) (st_row h hk).1]
    refine fb_sm_cong (fun i hi => ?_)
    unfold cts
    rw [show (6 * k + i) / 6 = k by omega, show (6 * k + i) % 6 = i by omega]
  have e0 := e 0 (by decide)
  have e1 := e 1 (by decide)
  have e2 := e 2 (by decide)
  simp only [Nat.mul_zero, Nat.zero_add, Nat.mul_one] at e0 e1
  rw [show (18 : Nat) = 6 + 12 from rfl, fb_sm_split, e0, show (12 : Nat) = 6 + 6 from rfl, fb_sm_split, e1]
  unfold bks
  rw [← e2]
  congr 2
theorem i_neg1 {n : Nat} : nI (n + 1) + -1 = nI n := pk_m1 n
theorem c_blockings (l : Launch) (S : qSt) {y : Nat} {Y : YD} (hY : y_ok Y) (hO : YO S y Y) {P : Nat → List Nat} (hP : p_ok Y P) {b : Nat} (hb : b ≤ 6) : q_Met q_mt l 2 k_X9_blockings 1 [.inr (.inr (3, y)), .inr (.inl (lN (es P))), .inl (nI b)] S (fun r S' => r = some (.inl (nI (bks Y b P))) ∧ S' = S) := by
  refine q_meth zoX9_blockings q_fos (Nat.le_of_ble_eq_true rfl) ?_
  intro AT step
  have h6 := hY.2.1
  have hst := hP.1
  have hlt := es_lt hst
  have hL : ∀ (n s9 b9 : Nat), n ≤ 18 → s9 + fb_sm (cts Y b P) n = bks Y b P → (n % 6 ≠ 0 → b9 = bo ((P ((n - 1) / 6)).drop ((n - 1) % 6 + 1))) → s9 < 200 → b9 < 64 → AT 1 [some (.inr (.inr (3, y))), some (.inr (.inl (lN (es P)))), none, some (.inl (nI b)), some (.inl (nI s9)), some (.inl (nI b9)), some (.inl (nI n - 1)), none] [] S := by
    intro n
    induction n with
    | zero =>
      intro s9 b9 _ h1 _ _ _
      refine step 20 [(1, [true, true, true, true, true, true, true, false]), (2, [true, true, true, true, true, true, true, false])] 1 _ _ _ ?_
      simp only [q_vcs, q_vcc, q_vl, q_vu, ↓reduceIte, Nat.reduceEqDiff, Bool.false_eq_true, q_isc, q_mk, q_msk, zbX9_blockings, q_pad, q_ent, q_get, q_put, q_nl, q_w, List.cons_append, List.nil_append, q_aks, q_als, Nat.reduceAdd, Nat.reduceLeDiff, Nat.zero_le, true_and, and_true, Option.some.injEq, Sum.inl.injEq, Sum.inr.injEq, true_or, or_true, and_self, q_sw]
      refine ⟨fun _ => ?_, fun h => absurd (by decide) h⟩
      rw [← h1]
      rfl
    | succ n ih =>
      intro s9 b9 hn h1 h2 h3 h4
      have hk : n / 6 < 3 := by omega
      have hi : n % 6 < 6 := by omega
      have dg := dg_get hst hk hi
      rw [show 6 * (n / 6) + n % 6 = n by omega] at dg
      have hr := st_row hst hk
      have fin : ∀ (s1 b1 : Nat), s1 = s9 + cts Y b P n → b1 = bo ((P (n / 6)).drop (n % 6)) → AT 1 [some (.inr (.inr (3, y))), some (.inr (.inl (lN (es P)))), none, some (.inl (nI b)), some (.inl (nI s1)), some (.inl (nI b1)), some (.inl (nI n - 1)), none] [] S := by
        rintro s1 b1 rfl rfl
        have hc : cts Y b P n ≤ 6 := by
          unfold cts ctb
          split
          · exact Nat.le_trans (Nat.min_le_left _ _) hb
          · omega
        refine ih _ _ (by omega) (by rw [← h1, fb_sm_succ]; omega) (fun hne => ?_) ?_ (bo_lt (fun c hc => hr.2 c (List.mem_of_mem_drop hc)))
        · rw [show (n - 1) / 6 = n / 6 by omega, show (n - 1) % 6 + 1 = n % 6 by omega]
        · have : bks Y b P < 190 := by
            rw [← cts_sum hst]
            have := fb_sm_bound (f := cts Y b P) (c := 6) (n := 18) (fun k _ => by
              unfold cts ctb
              split
              · exact Nat.le_trans (Nat.min_le_left _ _) hb
              · omega)
            omega
          have := h1
          rw [fb_sm_succ] at this
          omega
      have body : ∀ b2 : Nat, b2 = bo ((P (n / 6)).drop (n % 6 + 1)) → AT 2 [some (.inr (.inr (3, y))), some (.inr (.inl (lN (es P)))), none, some (.inl (nI b)), some (.inl (nI s9)), some (.inl (nI b2)), some (.inl (nI n)), none] [] S := by
        intro b2 hb2
        have hb64 : b2 < 64 := by rw [hb2]; exact bo_lt (fun c hc => hr.2 c (List.mem_of_mem_drop hc))
        refine step 20 [(1, [true, true, true, true, true, true, true, false]), (2, [true, true, true, true, true, true, true, false])] 2 _ _ _ ?_
        simp only [q_vcs, q_vcc, q_vl, q_vu, ↓reduceIte, Nat.reduceEqDiff, Bool.false_eq_true, q_isc, q_mk, q_msk, zbX9_blockings, q_pad, q_ent, q_get, q_put, q_nl, q_w, List.cons_append, List.nil_append, q_aks, q_als, Nat.reduceAdd, Nat.reduceLeDiff, Nat.zero_le, true_and, and_true, Option.some.injEq, Sum.inl.injEq, Sum.inr.injEq, true_or, or_true, and_self, q_sw]
        rw [l_dig hlt (by omega), dg, hO.1.2.1]
        unfold cts ctb at fin
        cases hg : (P (n / 6))[n % 6]? with
        | none =>
          rw [hg] at fin
          refine ⟨fun _ => ?_, fun h => absurd (by decide) h⟩
          rw [show nI n + -1 = nI n - 1 by rw [Int32.sub_eq_add_neg]]
          exact fin _ _ rfl (by rw [hb2, List.drop_eq_nil_of_le (List.getElem?_eq_none_iff.mp hg), List.drop_eq_nil_of_le (by have := List.getElem?_eq_none_iff.mp hg; omega)])
        | some c =>
          rw [hg] at fin
          have hcm : c ∈ P (n / 6) := List.mem_of_getElem? hg
          have hcY := hP.2.2.1 _ c hcm
          have hlt' := (List.getElem?_eq_some_iff.mp hg).1
          have hce := (List.getElem?_eq_some_iff.mp hg).2
          have hs := sob_lt hY c
          dsimp only
          rw [i_m1]
          have hdn : ((P (n / 6)).drop (n % 6 + 1)).Nodup := (p_nd hP hk).sublist (List.drop_sublist _ _)
          have hbit : bo ((P (n / 6)).drop (n % 6)) = b2 ||| 2 ^ c := by
            rw [List.drop_eq_getElem_cons hlt', hce, bo, hb2, Nat.or_comm]
          refine ⟨fun h => absurd h (nI_pos (by omega)), fun _ => ⟨fun h => absurd ((nI_leI (by omega) (by omega)).mp h) (by omega), fun _ => ⟨i_in (by omega) (by decide), ?_⟩⟩⟩
          rw [i_cl (by omega), (hO.2 c hcY).1, fa_and]
          have hand : b2 &&& sob Y c < 64 := Nat.lt_of_le_of_lt Nat.and_le_left hb64
          refine q_u1 (by decide) (c_bitCount l S (n := b2 &&& sob Y c) (by omega)) ?_
          rw [hb2]
          unfold sob
          rw [pcn_and hdn (fun x hx => hP.2.2.1 _ x (List.mem_of_mem_drop hx)) (by omega)]
          have hcp : ((P (n / 6)).drop (n % 6 + 1)).countP (fun x => soon Y x c) ≤ 6 := Nat.le_trans (List.countP_le_length) (by have := hr.1; simp; omega)
          generalize hq : ((P (n / 6)).drop (n % 6 + 1)).countP (fun x => soon Y x c) = q at *
          have emin : (if nI q < nI b then nI q else nI b) = nI (min b q) := by
            by_cases h : q < b
            · rw [if_pos ((nI_ltI (by omega) (by omega)).mpr h), Nat.min_eq_right (by omega)]
            · rw [if_neg (fun h2 => h ((nI_ltI (by omega) (by omega)).mp h2)), Nat.min_eq_left (by omega)]
          rw [emin, nI_add, i_1sh _ (by omega), fa_or, show nI n + -1 = nI n - 1 by rw [Int32.sub_eq_add_neg], ← hb2]
          exact ⟨by decide, fin _ _ (by show _ = s9 + min b _; rw [hq]) hbit.symm⟩
      refine step 20 [(1, [true, true, true, true, true, true, true, false]), (2, [true, true, true, true, true, true, true, false])] 1 _ _ _ ?_
      simp only [q_vcs, q_vcc, q_vl, q_vu, ↓reduceIte, Nat.reduceEqDiff, Bool.false_eq_true, q_isc, q_mk, q_msk, zbX9_blockings, q_pad, q_ent, q_get, q_put, q_nl, q_w, List.cons_append, List.nil_append, q_aks, q_als, Nat.reduceAdd, Nat.reduceLeDiff, Nat.zero_le, true_and, and_true, Option.some.injEq, Sum.inl.injEq, Sum.inr.injEq, true_or, or_true, and_self, q_sw]
      rw [i_m1, show (6 : Int32) = nI 6 from rfl, i_rem (by omega) (by decide) (by decide), show (5 : Int32) = nI 5 from rfl]
      refine ⟨fun h => absurd h (nI_pos (by omega)), fun _ => ⟨by decide, fun h => ?_, fun h => ?_⟩⟩
      · have h' : ¬ n % 6 = 5 := fun e => h (by rw [e])
        exact body b9 (by have := h2 (by omega); simpa using this)
      · have h := (nI_eq (by omega) (by decide)).mp h
        refine body 0 ?_
        rw [h, List.drop_eq_nil_of_le hr.1]
        rfl
  refine step 20 [(1, [true, true, true, true, true, true, true, false]), (2, [true, true, true, true, true, true, true, false])] 0 _ _ _ ?_
  simp only [q_vcs, q_vcc, q_vl, q_vu, ↓reduceIte, Nat.reduceEqDiff, Bool.false_eq_true, q_isc, q_mk, q_msk, zbX9_blockings, q_pad, q_ent, q_get, q_put, q_nl, q_w, List.cons_append, List.nil_append, q_aks, q_als, Nat.reduceAdd, Nat.reduceLeDiff, Nat.zero_le, true_and, and_true, Option.some.injEq, Sum.inl.injEq, Sum.inr.injEq, true_or, or_true, and_self, q_sw]
  exact hL 18 0 0 (by decide) (by rw [cts_sum hst]; simp) (fun h => absurd rfl h) (by decide) (by decide)
def prs (Y : YD) (P : Nat → List Nat) : Nat := bks Y 6 P
theorem c_pairsOf (l : Launch) (S : qSt) {y : Nat} {Y : YD} (hY : y_ok Y) (hO : YO S y Y) {P : Nat → List Nat} (hP : p_ok Y P) : q_Met q_mt l 3 k_X9_pairsOf 1 [.inr (.inr (3, y)), .inr (.inl (lN (es P)))] S (fun r S' => r = some (.inl (nI (prs Y P))) ∧ S' = S) := by
  refine q_meth zoX9_pairsOf q_fos (Nat.le_of_ble_eq_true rfl) ?_
  intro AT step
  refine step 20 [] 0 _ _ _ ?_
  simp only [q_vcs, q_vcc, q_vl, q_vu, ↓reduceIte, Nat.reduceEqDiff, Bool.false_eq_true, q_isc, q_mk, q_msk, zbX9_pairsOf, q_pad, q_ent, q_get, q_put, q_nl, q_w, List.cons_append, List.nil_append, q_aks, q_als, Nat.reduceAdd, Nat.reduceLeDiff, Nat.zero_le, true_and, and_true, Option.some.injEq, Sum.inl.injEq, Sum.inr.injEq, true_or, or_true, and_self, q_sw]
  exact q_u1 (by decide) (c_blockings l S hY hO hP (b := 6) (by decide)) ⟨rfl, rfl⟩
/-- who goes next: the first of the order that is in -/
def isin (P : Nat → List Nat) (c : Nat) : Bool := decide (c ∈ P 0 ∨ c ∈ P 1 ∨ c ∈ P 2)
def nxt (Y : YD) (P : Nat → List Nat) : Option Nat := (ordL (soon Y) (Y 1 0)).find? (isin P)
theorem bs_bit (P : Nat → List Nat) (i : Nat) : (bs P).testBit i = isin P i := by
  unfold bs isin
  rw [Nat.testBit_or, Nat.testBit_or, bo_bit, bo_bit, bo_bit]
  simp
theorem bs_lt {P : Nat → List Nat} (h : st_ok P) : bs P < 64 := Nat.or_lt_two_pow (n := 6) (bo_lt h.1.2) (Nat.or_lt_two_pow (n := 6) (bo_lt h.2.1.2) (bo_lt h.2.2.2))
theorem i_bit {n k : Nat} (hn : n < 2 ^ 31) (hk : k < 31) : nI n >>> (nI k &&& 31) &&& 1 = nI (if n.testBit k then 1 else 0) := by
  rw [pk_shrN hn _ k (s_l k (by omega)), show (1 : Int32) = nI (2 ^ 1 - 1) from rfl, fa_mask]
  congr 1
  rw [Nat.testBit_eq_decide_div_mod_eq]
  have := Nat.mod_lt (n / 2 ^ k) (show 0 < 2 by decide)
  by_cases h : n / 2 ^ k % 2 = 1
  · simp [h]
  · simp [h]; omega
theorem i_bit0 {b : Bool} : nI (if b then 1 else 0) = 0 ↔ b = false := by cases b <;> decide
theorem c_nextOut (l : Launch) (S : qSt) {y : Nat} {Y : YD} (hY : y_ok Y) (hO : YO S y Y) {P : Nat → List Nat} (hP : st_ok P) : q_Met q_mt l 2 k_X9_nextOut 1 [.inr (.inr (3, y)), .inr (.inl (lN (es P)))] S (fun r S' => r = some (.inl (oI (nxt Y P))) ∧ S' = S) := by
  refine q_meth zoX9_nextOut q_fos (Nat.le_of_ble_eq_true rfl) ?_
  intro AT step
  have h6 := hY.2.1
  have hb := bs_lt hP
  have hL : ∀ (k i : Nat), i + k = Y 1 0 → ((List.range' i k).map (lvc (soon Y) (Y 1 0))).find? (isin P) = nxt Y P → AT 1 [some (.inr (.inr (3, y))), some (.inr (.inl (lN (es P)))), none, some (.inl (nI (bs P))), some (.inl (nI i))] [] S := by
    intro k
    induction k with
    | zero =>
      intro i hi hs
      refine step 20 [(1, [true, true, true, true, true])] 1 _ _ _ ?_
      simp only [q_vcs, q_vcc, q_vl, q_vu, ↓reduceIte, Nat.reduceEqDiff, Bool.false_eq_true, q_isc, q_mk, q_msk, zbX9_nextOut, q_pad, q_ent, q_get, q_put, q_nl, q_w, List.cons_append, List.nil_append, q_aks, q_als, Nat.reduceAdd, Nat.reduceLeDiff, Nat.zero_le, true_and, and_true, Option.some.injEq, Sum.inl.injEq, Sum.inr.injEq, true_or, or_true, and_self, q_sw]
      rw [hO.1.2.1, nI_leI (by omega) (by omega)]
      refine ⟨fun _ => ?_, fun h => absurd (by omega) h⟩
      rw [← hs]
      rfl
    | succ k ih =>
      intro i hi hs
      have hlv := lvc_spec (soon_ok Y) (show i < Y 1 0 by omega)
      refine step 20 [(1, [true, true, true, true, true])] 1 _ _ _ ?_
      simp only [q_vcs, q_vcc, q_vl, q_vu, ↓reduceIte, Nat.reduceEqDiff, Bool.false_eq_true, q_isc, q_mk, q_msk, zbX9_nextOut, q_pad, q_ent, q_get, q_put, q_nl, q_w, List.cons_append, List.nil_append, q_aks, q_als, Nat.reduceAdd, Nat.reduceLeDiff, Nat.zero_le, true_and, and_true, Option.some.injEq, Sum.inl.injEq, Sum.inr.injEq, true_or, or_true, and_self, q_sw]
      rw [hO.1.2.1, nI_leI (by omega) (by omega), i_cl (by omega), hO.lv (show i < Y 1 0 by omega), i_bit (by omega) (by omega), i_bit0, bs_bit, nI_1]
      rw [List.range'_succ, List.map_cons] at hs
      refine ⟨fun h => absurd h (by omega), fun _ => ⟨i_in (by omega) (by decide), fun h => ?_, fun h => ⟨i_in (by omega) (by decide), ?_⟩⟩⟩
      · refine ih (i + 1) (by omega) ?_
        rw [← hs, List.find?_cons_of_neg (by simp [h])]
      · rw [← hs, List.find?_cons_of_pos (by simpa using h)]
        rfl
  refine step 20 [(1, [true, true, true, true, true])] 0 _ _ _ ?_
  simp only [q_vcs, q_vcc, q_vl, q_vu, ↓reduceIte, Nat.reduceEqDiff, Bool.false_eq_true, q_isc, q_mk, q_msk, zbX9_nextOut, q_pad, q_ent, q_get, q_put, q_nl, q_w, List.cons_append, List.nil_append, q_aks, q_als, Nat.reduceAdd, Nat.reduceLeDiff, Nat.zero_le, true_and, and_true, Option.some.injEq, Sum.inl.injEq, Sum.inr.injEq, true_or, or_true, and_self, q_sw]
  refine q_u1 (by decide) (c_carsIn l S hP) ?_
  refine hL (Y 1 0) 0 (by omega) ?_
  rw [← List.range_eq_range']
  rfl
