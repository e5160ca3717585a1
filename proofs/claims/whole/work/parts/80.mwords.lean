/-! the reference: words -/
def wv (w : List Nat) : Nat := w.foldl (fun v c => 27 * v + (c - 96)) 0
theorem wv_app (w : List Nat) (c : Nat) : wv (w ++ [c]) = 27 * wv w + (c - 96) := by
  unfold wv
  rw [List.foldl_append]
  rfl
theorem seg_succ (T : Nat → Nat) (b k : Nat) : seg T b (b + (k + 1)) = seg T b (b + k) ++ [T (b + k)] := by
  unfold seg
  rw [Nat.add_sub_cancel_left, Nat.add_sub_cancel_left, List.range_succ, List.map_append]
  rfl
def ltr (w : List Nat) : Prop := ∀ c ∈ w, 97 ≤ c ∧ c ≤ 122
theorem wv_lt : ∀ (w : List Nat), ltr w.reverse → wv w.reverse < 27 ^ w.length
  | [], _ => by decide
  | c :: w, h => by
    rw [List.reverse_cons] at h ⊢
    have h1 := wv_lt w (fun x hx => h x (List.mem_append_left _ hx))
    have h2 := h c (by simp)
    rw [wv_app, List.length_cons, Nat.pow_succ]
    omega
theorem wv_inj : ∀ (w v : List Nat), ltr w.reverse → ltr v.reverse → wv w.reverse = wv v.reverse → w = v
  | [], [], _, _, _ => rfl
  | [], c :: v, _, hv, h => by
    rw [List.reverse_cons, wv_app] at h
    have := hv c (by simp)
    have h0 : wv (([] : List Nat).reverse) = 0 := rfl
    omega
  | c :: w, [], hw, _, h => by
    rw [List.reverse_cons, wv_app] at h
    have := hw c (by simp)
    have h0 : wv (([] : List Nat).reverse) = 0 := rfl
    omega
  | c :: w, d :: v, hw, hv, h => by
    rw [List.reverse_cons, wv_app, List.reverse_cons, wv_app] at h
    have h1 := hw c (by simp)
    have h2 := hv d (by simp)
    have e : c = d := by omega
    have e2 : wv w.reverse = wv v.reverse := by omega
    rw [e, wv_inj w v (fun x hx => hw x (by rw [List.reverse_cons]; exact List.mem_append_left _ hx)) (fun x hx => hv x (by rw [List.reverse_cons]; exact List.mem_append_left _ hx)) e2]
theorem wv_eq {w v : List Nat} (hw : ltr w) (hv : ltr v) (h : wv w = wv v) : w = v := by
  have := wv_inj w.reverse v.reverse (by rw [List.reverse_reverse]; exact hw) (by rw [List.reverse_reverse]; exact hv) (by rw [List.reverse_reverse, List.reverse_reverse]; exact h)
  exact List.reverse_inj.mp this
theorem wv_le {w : List Nat} (hw : ltr w) (hl : w.length ≤ 6) : wv w < 27 ^ 6 := by
  have := wv_lt w.reverse (by rw [List.reverse_reverse]; exact hw)
  rw [List.reverse_reverse, List.length_reverse] at this
  exact Nat.lt_of_lt_of_le this (Nat.pow_le_pow_right (by decide) hl)
theorem seg_len (T : Nat → Nat) (b k : Nat) : (seg T b (b + k)).length = k := by
  unfold seg
  simp
theorem seg_ltr {T : Nat → Nat} {n b e : Nat} (h : ∀ k, b ≤ k → k < e → tb T n isl k = true) : ltr (seg T b e) := by
  intro c hc
  unfold seg at hc
  obtain ⟨k, hk, rfl⟩ := List.mem_map.mp hc
  simp only [List.mem_range] at hk
  have := (tb_lt (h (b + k) (by omega) (by omega))).2
  unfold isl at this
  simpa using this
theorem c_mwordHere (l : Launch) (S : qSt) {T : Nat → Nat} {n a : Nat} (hR : MD S T n a none) : q_Met q_mt l 2 k_X11_wordHere 1 [.inr (.inr (40, 0))] S (fun r S' => r = some (.inl (if 6 < tx T n isl (tx T n isb a) - tx T n isb a then -1 else nI (wv (seg T (tx T n isb a) (tx T n isl (tx T n isb a)))))) ∧ MD S' T n (tx T n isb a) none ∧ ME S S') := by
  refine q_meth zoX11_wordHere q_fos (Nat.le_of_ble_eq_true rfl) ?_
  intro AT step
  have hn := hR.1
  have hL : ∀ (m k : Nat) (S1 : qSt), n - (tx T n isb a + k) ≤ m → MD S1 T n (tx T n isb a) none → ME S S1 → tx T n isb a + k ≤ n → tx T n isl (tx T n isb a + k) = tx T n isl (tx T n isb a) → (∀ q, tx T n isb a ≤ q → q < tx T n isb a + k → tb T n isl q = true) → AT 1 [some (.inr (.inr (40, 0))), some (.inl (nI (wv (seg T (tx T n isb a) (tx T n isb a + min k 6))))), some (.inl (nI k))] [] S1 := by
    intro m
    induction m with
    | zero => ?_
    | succ m ih => ?_
    all_goals
      intro k S1 hm hM1 hE1 hkn ht hall
      have g3 := hM1.2.1.2.1
      have hseg : ltr (seg T (tx T n isb a) (tx T n isb a + min k 6)) := seg_ltr (n := n) (fun q h1 h2 => hall q h1 (by omega))
      have hwl := wv_le hseg (by rw [seg_len]; omega)
      refine step 40 [(1, [true, true, true])] 1 _ _ _ ?_
      simp only [q_vcs, q_vcc, q_vl, q_vu, ↓reduceIte, Nat.reduceEqDiff, Bool.false_eq_true, q_isc, q_mk, q_msk, zbX11_wordHere, q_pad, q_ent, q_get, q_put, q_nl, q_w, List.cons_append, List.nil_append, q_aks, q_als, Nat.reduceAdd, Nat.reduceLeDiff, Nat.zero_le, true_and, and_true, Option.some.injEq, Sum.inl.injEq, Sum.inr.injEq, true_or, or_true, and_self, q_sw]
      rw [g3, nI_add]
      refine q_u1 (by decide) (c_mbyteAt l S1 (k := tx T n isb a + k) hM1 (by omega)) ?_
      refine q_u1 (by decide) (c_misSmall l S1 (mhr_lt hM1)) ?_
      rw [bI_0, ← tb_hr, show (6 : Int32) = nI 6 from rfl, nI_leI (by omega) (by decide), nI_leI (by decide) (by omega), g3, nI_add, nI_1]
      refine ⟨fun hf => ?_, fun h2 => ?_⟩
      · have hA : tx T n isl (tx T n isb a) = tx T n isb a + k := by rw [← ht, tx_f hf]
        rw [hA, Nat.add_sub_cancel_left]
        refine ⟨fun h6 => ?_, fun h6 => ?_⟩
        · rw [if_neg (by omega)]
          rw [show min k 6 = k by omega]
          exact ⟨rfl, hM1, hE1⟩
        · rw [if_pos (by omega)]
          exact ⟨rfl, hM1, hE1⟩
      have h2 : tb T n isl (tx T n isb a + k) = true := ts_nf h2
      have hd := tb_lt h2
      try exact absurd hm (by omega)
    have hd2 : 97 ≤ T (tx T n isb a + k) ∧ T (tx T n isb a + k) ≤ 122 := by
      have := hd.2
      unfold isl at this
      simpa using this
    have next := ih (k + 1) S1 (by omega) hM1 hE1 (by omega) (by rw [← ht]; exact (tx_t h2).symm) (fun q q1 q2 => by
      by_cases e : q = tx T n isb a + k
      · rw [e]; exact h2
      · exact hall q q1 (by omega))
    refine ⟨fun h6 => ?_, fun h6 => ?_⟩
    · rw [show min (k + 1) 6 = min k 6 by omega] at next
      exact next
    · refine q_u1 (by decide) (c_mbyteAt l S1 (k := tx T n isb a + k) hM1 (by omega)) ?_
      have e1 : hr T n (tx T n isb a + k) = some (T (tx T n isb a + k)) := by unfold hr; rw [if_pos hd.1]
      rw [show min (k + 1) 6 = min k 6 + 1 by omega, seg_succ, wv_app, show min k 6 = k by omega] at next
      rw [show min k 6 = k by omega, e1, show oI (some (T (tx T n isb a + k))) = nI (T (tx T n isb a + k)) from rfl]
      have e2 : 27 * nI (wv (seg T (tx T n isb a) (tx T n isb a + k))) + nI (T (tx T n isb a + k)) - 97 + 1 = nI (27 * wv (seg T (tx T n isb a) (tx T n isb a + k)) + (T (tx T n isb a + k) - 96)) := by
        rw [show (27 : Int32) = nI 27 from rfl, pk_mul, nI_add, show (97 : Int32) = nI 97 from rfl, show 27 * wv (seg T (tx T n isb a) (tx T n isb a + k)) + T (tx T n isb a + k) = (27 * wv (seg T (tx T n isb a) (tx T n isb a + k)) + (T (tx T n isb a + k) - 97)) + 97 by omega, i_sub, nI_1]
        congr 1
        omega
      rw [e2]
      exact next
  refine step 40 [(1, [true, true, true])] 0 _ _ _ ?_
  simp only [q_vcs, q_vcc, q_vl, q_vu, ↓reduceIte, Nat.reduceEqDiff, Bool.false_eq_true, q_isc, q_mk, q_msk, zbX11_wordHere, q_pad, q_ent, q_get, q_put, q_nl, q_w, List.cons_append, List.nil_append, q_aks, q_als, Nat.reduceAdd, Nat.reduceLeDiff, Nat.zero_le, true_and, and_true, Option.some.injEq, Sum.inl.injEq, Sum.inr.injEq, true_or, or_true, and_self, q_sw]
  refine ⟨_, _, (by decide : 1 < 2), c_mblanks l S hR, fun S1 h1 => ?_⟩
  have hb : tx T n isb a ≤ n := tx_le hn.2.1
  have := hL (n - tx T n isb a) 0 S1 (by omega) h1.1 h1.2 (by omega) rfl (fun q h1 h2 => by omega)
  have e : wv (seg T (tx T n isb a) (tx T n isb a + min 0 6)) = 0 := by
    unfold seg
    simp
    rfl
  rw [e] at this
  exact this
def sixv (a b c d e f : Int32) : Int32 :=
  let v0 := 27 * (27 * a + b) + c
  let v1 := if d = 0 then v0 else 27 * v0 + d
  let v2 := if e = 0 then v1 else 27 * v1 + e
  if f = 0 then v2 else 27 * v2 + f
theorem c_msix (l : Launch) (S : qSt) (a b c d e f : Int32) : q_Met q_mt l 0 k_X11_six 1 [.inl a, .inl b, .inl c, .inl d, .inl e, .inl f] S (fun r S' => r = some (.inl (sixv a b c d e f)) ∧ S' = S) := by
  refine q_meth zoX11_six q_fos (Nat.le_of_ble_eq_true rfl) ?_
  intro AT step
  refine step 20 [] 0 _ _ _ ?_
  simp only [q_vcs, q_vcc, q_vl, q_vu, ↓reduceIte, Nat.reduceEqDiff, Bool.false_eq_true, q_isc, q_mk, q_msk, zbX11_six, q_pad, q_ent, q_get, q_put, q_nl, q_w, List.cons_append, List.nil_append, q_aks, q_als, Nat.reduceAdd, Nat.reduceLeDiff, Nat.zero_le, true_and, and_true, Option.some.injEq, Sum.inl.injEq, Sum.inr.injEq, true_or, or_true, and_self, q_sw]
  unfold sixv
  by_cases hd : d = 0 <;> by_cases he : e = 0 <;> by_cases hf : f = 0 <;> simp [hd, he, hf]
theorem sw_ltr : ∀ i, i < 20 → 3 ≤ i → (∀ c ∈ sw i, 97 ≤ c ∧ c ≤ 122) ∧ (sw i).length ≤ 6 := by decide
/-- a word, told by its letters -/
theorem c_misWord (l : Launch) (S : qSt) {T : Nat → Nat} {n a i : Nat} (x0 x1 x2 x3 x4 x5 : Int32) (hR : MD S T n a none) (hi : 3 ≤ i ∧ i < 20) (hx : sixv x0 x1 x2 x3 x4 x5 = nI (wv (sw i))) : q_Met q_mt l 3 k_X11_isWord 1 [.inr (.inr (40, 0)), .inl x0, .inl x1, .inl x2, .inl x3, .inl x4, .inl x5] S (fun r S' => r = some (.inl (bI (decide (seg T (tx T n isb a) (tx T n isl (tx T n isb a)) = sw i)))) ∧ MD S' T n (tx T n isb a) none ∧ ME S S') := by
  obtain ⟨hl1, hl2⟩ := sw_ltr i hi.2 hi.1
  have hwi := wv_le hl1 hl2
  refine q_meth zoX11_isWord q_fos (Nat.le_of_ble_eq_true rfl) ?_
  intro AT step
  refine step 20 [] 0 _ _ _ ?_
  simp only [q_vcs, q_vcc, q_vl, q_vu, ↓reduceIte, Nat.reduceEqDiff, Bool.false_eq_true, q_isc, q_mk, q_msk, zbX11_isWord, q_pad, q_ent, q_get, q_put, q_nl, q_w, List.cons_append, List.nil_append, q_aks, q_als, Nat.reduceAdd, Nat.reduceLeDiff, Nat.zero_le, true_and, and_true, Option.some.injEq, Sum.inl.injEq, Sum.inr.injEq, true_or, or_true, and_self, q_sw]
  rw [mek_0 hR]
  refine ⟨fun h => absurd rfl h, fun _ => ?_⟩
  refine ⟨_, _, (by decide : 2 < 3), c_mwordHere l S hR, fun v S1 h1 => ?_⟩
  obtain ⟨hv, h1⟩ := h1
  cases hv
  refine q_u1 (by decide) (c_msix l S1 x0 x1 x2 x3 x4 x5) ?_
  rw [hx]
  have hseg : ltr (seg T (tx T n isb a) (tx T n isl (tx T n isb a))) := seg_ltr (n := n) (fun q h1 h2 => tx_in h1 h2)
  have hge := tx_ge T n isl (tx T n isb a)
  have hlen : (seg T (tx T n isb a) (tx T n isl (tx T n isb a))).length = tx T n isl (tx T n isb a) - tx T n isb a := by
    unfold seg
    simp
  by_cases h6 : 6 < tx T n isl (tx T n isb a) - tx T n isb a
  · rw [if_pos h6]
    have hne : ¬ seg T (tx T n isb a) (tx T n isl (tx T n isb a)) = sw i := fun q => by
      rw [q] at hlen
      omega
    rw [decide_eq_false hne]
    refine ⟨fun _ => ⟨rfl, h1⟩, fun h => absurd h.symm (i_ne1 (by omega))⟩
  · rw [if_neg h6]
    have hws := wv_le hseg (by omega)
    rw [nI_eq (by omega) (by omega)]
    refine ⟨fun h => ?_, fun h => ?_⟩
    · rw [decide_eq_false (fun q => h (by rw [q]))]
      exact ⟨rfl, h1⟩
    · rw [decide_eq_true (wv_eq hseg hl1 h)]
      exact ⟨rfl, h1⟩
theorem c_misWordF (l : Launch) (S : qSt) {T : Nat → Nat} {n a : Nat} {q : Nat × Nat} (x0 x1 x2 x3 x4 x5 : Int32) (hR : MD S T n a (some q)) : q_Met q_mt l 3 k_X11_isWord 1 [.inr (.inr (40, 0)), .inl x0, .inl x1, .inl x2, .inl x3, .inl x4, .inl x5] S (fun r S' => r = some (.inl 0) ∧ S' = S) := by
  refine q_meth zoX11_isWord q_fos (Nat.le_of_ble_eq_true rfl) ?_
  intro AT step
  refine step 20 [] 0 _ _ _ ?_
  simp only [q_vcs, q_vcc, q_vl, q_vu, ↓reduceIte, Nat.reduceEqDiff, Bool.false_eq_true, q_isc, q_mk, q_msk, zbX11_isWord, q_pad, q_ent, q_get, q_put, q_nl, q_w, List.cons_append, List.nil_append, q_aks, q_als, Nat.reduceAdd, Nat.reduceLeDiff, Nat.zero_le, true_and, and_true, Option.some.injEq, Sum.inl.injEq, Sum.inr.injEq, true_or, or_true, and_self, q_sw]
  rw [mek_0 hR]
  exact ⟨fun _ => (by first | trivial | rfl | exact ⟨rfl, rfl⟩), fun h => (by cases h)⟩
theorem c_mskipWord (l : Launch) (S : qSt) {T : Nat → Nat} {n a : Nat} {e : Option (Nat × Nat)} (h : MD S T n a e) : q_Met q_mt l 1 k_X11_skipWord 0 [.inr (.inr (40, 0))] S (fun _ S' => MD S' T n (tx T n isl a) e ∧ ME S S') := by
  refine q_meth zoX11_skipWord q_fos (Nat.le_of_ble_eq_true rfl) ?_
  intro AT step
  have hL : ∀ (m b : Nat) (S1 : qSt), n - b ≤ m → MD S1 T n b e → ME S S1 → tx T n isl b = tx T n isl a → AT 0 [some (.inr (.inr (40, 0)))] [] S1 := by
    intro m
    induction m with
    | zero => ?_
    | succ m ih => ?_
    all_goals
      intro b S1 hm hR hE ht
      have hn := hR.1
      have g3 := hR.2.1.2.1
      refine step 20 [(0, [true])] 0 _ _ _ ?_
      simp only [q_vcs, q_vcc, q_vl, q_vu, ↓reduceIte, Nat.reduceEqDiff, Bool.false_eq_true, q_isc, q_mk, q_msk, zbX11_skipWord, q_pad, q_ent, q_get, q_put, q_nl, q_w, List.cons_append, List.nil_append, q_aks, q_als, Nat.reduceAdd, Nat.reduceLeDiff, Nat.zero_le, true_and, and_true, Option.some.injEq, Sum.inl.injEq, Sum.inr.injEq, true_or, or_true, and_self, q_sw]
      rw [g3]
      refine q_u1 (by decide) (c_mbyteAt l S1 (k := b) hR (by omega)) ?_
      refine q_u1 (by decide) (c_misSmall l S1 (mhr_lt hR)) ?_
      rw [bI_0, ← tb_hr, g3, nI_1]
      refine ⟨fun h1 => ?_, fun h1 => ?_⟩
      · rw [← ht, tx_f h1]
        exact ⟨hR, hE⟩
      · have htb : tb T n isl b = true := ts_nf h1
        have hb := (tb_lt htb).1
        first
        | exact absurd hm (by omega)
        | exact ih (b + 1) _ (by omega) (hR.at (by omega)) (hE.w (by omega)) (by rw [← ht]; exact (tx_t htb).symm)
  exact hL n a S (by omega) h ME.rf rfl
theorem c_mtakes (l : Launch) (S : qSt) {T : Nat → Nat} {n a i : Nat} (x0 x1 x2 x3 x4 x5 : Int32) (hR : MD S T n a none) (hi : 3 ≤ i ∧ i < 20) (hx : sixv x0 x1 x2 x3 x4 x5 = nI (wv (sw i))) : q_Met q_mt l 4 k_X11_takes 1 [.inr (.inr (40, 0)), .inl x0, .inl x1, .inl x2, .inl x3, .inl x4, .inl x5] S (fun r S' => r = some (.inl (bI (decide (seg T (tx T n isb a) (tx T n isl (tx T n isb a)) = sw i)))) ∧ MD S' T n (if seg T (tx T n isb a) (tx T n isl (tx T n isb a)) = sw i then tx T n isl (tx T n isb a) else tx T n isb a) none ∧ ME S S') := by
  refine q_meth zoX11_takes q_fos (Nat.le_of_ble_eq_true rfl) ?_
  intro AT step
  refine step 20 [] 0 _ _ _ ?_
  simp only [q_vcs, q_vcc, q_vl, q_vu, ↓reduceIte, Nat.reduceEqDiff, Bool.false_eq_true, q_isc, q_mk, q_msk, zbX11_takes, q_pad, q_ent, q_get, q_put, q_nl, q_w, List.cons_append, List.nil_append, q_aks, q_als, Nat.reduceAdd, Nat.reduceLeDiff, Nat.zero_le, true_and, and_true, Option.some.injEq, Sum.inl.injEq, Sum.inr.injEq, true_or, or_true, and_self, q_sw]
  refine ⟨_, _, (by decide : 3 < 4), c_misWord l S x0 x1 x2 x3 x4 x5 hR hi hx, fun v S1 h1 => ?_⟩
  obtain ⟨hv, h1⟩ := h1
  cases hv
  rw [bI_0]
  by_cases h : seg T (tx T n isb a) (tx T n isl (tx T n isb a)) = sw i
  · rw [if_pos h, decide_eq_true h]
    refine ⟨fun h => (by cases h), fun _ => ?_⟩
    refine ⟨_, _, (by decide : 1 < 4), c_mskipWord l S1 h1.1, fun S2 h2 => ?_⟩
    exact ⟨Or.inr rfl, rfl, h2.1, h1.2.tr h2.2⟩
  · rw [if_neg h, decide_eq_false h]
    exact ⟨fun _ => ⟨Or.inl rfl, rfl, h1⟩, fun h => absurd rfl h⟩
/-- the tape of the reference -/
def MT (S : qSt) (T : Nat → Nat) (h : Nat) : Prop := h ≤ 600 ∧ q_I S 40 0 1 = nI h ∧ ∀ k, k < 600 → T k < 256 ∧ q_I S 41 0 k = nI (T k)
theorem c_mstarts (l : Launch) (S : qSt) {T : Nat → Nat} {h n : Nat} (hT : MT S T h) (hn : n ≤ h) : q_Met q_mt l 2 k_X11_starts 0 [.inr (.inr (40, 0)), .inl (nI n)] S (fun _ S' => MD S' T n (tx T n isb 0) none ∧ (q_I S' 40 0 1 = nI 0 ∧ q_I S' 40 0 7 = nI 0 ∧ q_I S' 40 0 8 = nI 0) ∧ (∀ j, (j = 0 ∨ j = 3 ∨ 9 ≤ j) → q_I S' 40 0 j = q_I S 40 0 j) ∧ fr F40 S S') := by
  have h6 := hT.1
  refine q_meth zoX11_starts q_fos (Nat.le_of_ble_eq_true rfl) ?_
  intro AT step
  refine step 20 [] 0 _ _ _ ?_
  simp only [q_vcs, q_vcc, q_vl, q_vu, ↓reduceIte, Nat.reduceEqDiff, Bool.false_eq_true, q_isc, q_mk, q_msk, zbX11_starts, q_pad, q_ent, q_get, q_put, q_nl, q_w, List.cons_append, List.nil_append, q_aks, q_als, Nat.reduceAdd, Nat.reduceLeDiff, Nat.zero_le, true_and, and_true, Option.some.injEq, Sum.inl.injEq, Sum.inr.injEq, true_or, or_true, and_self, q_sw]
  have hM : MD (q_wI (q_wI (q_wI (q_wI (q_wI (q_wI (q_wI S 40 0 1 0) 40 0 2 (nI n)) 40 0 4 0) 40 0 5 0) 40 0 6 (-1)) 40 0 7 0) 40 0 8 0) T n 0 none := by
    refine ⟨⟨by omega, by omega, fun q hq => by cases hq⟩, ⟨?_, ?_, ?_, ?_⟩, hT.2.2⟩
    · simp [q_I_wI]
    · simp [q_I_wI]; rfl
    · simp [q_I_wI]; rfl
    · simp [q_I_wI]; rfl
  refine ⟨_, _, (by decide : 1 < 2), c_mblanks l _ hM, fun S1 h1 => ?_⟩
  refine ⟨h1.1, ⟨?_, ?_, ?_⟩, fun j hj => ?_, (fr40 (fr40 (fr40 (fr40 (fr40 (fr40 (fr40 fr.rf))))))).tr h1.2.2⟩
  · rw [h1.2.1 1 (by decide)]; simp [q_I_wI]; rfl
  · rw [h1.2.1 7 (by decide)]; simp [q_I_wI]; rfl
  · rw [h1.2.1 8 (by decide)]; simp [q_I_wI]; rfl
  · rw [h1.2.1 j (by omega)]
    simp only [q_I_wI]
    rw [if_neg (by omega), if_neg (by omega), if_neg (by omega), if_neg (by omega), if_neg (by omega), if_neg (by omega), if_neg (by omega)]
theorem c_mends (l : Launch) (S : qSt) {T : Nat → Nat} {n a : Nat} {q : Nat × Nat} (h : MD S T n a (some q)) : q_Met q_mt l 0 k_X11_ends 1 [.inr (.inr (40, 0))] S (fun r S' => r = some (.inl (nI q.1 - 10)) ∧ S' = q_wI S 40 0 3 (nI q.2)) := by
  refine q_meth zoX11_ends q_fos (Nat.le_of_ble_eq_true rfl) ?_
  intro AT step
  refine step 20 [] 0 _ _ _ ?_
  simp only [q_vcs, q_vcc, q_vl, q_vu, ↓reduceIte, Nat.reduceEqDiff, Bool.false_eq_true, q_isc, q_mk, q_msk, zbX11_ends, q_pad, q_ent, q_get, q_put, q_nl, q_w, List.cons_append, List.nil_append, q_aks, q_als, Nat.reduceAdd, Nat.reduceLeDiff, Nat.zero_le, true_and, and_true, Option.some.injEq, Sum.inl.injEq, Sum.inr.injEq, true_or, or_true, and_self, q_sw]
  obtain ⟨-, ⟨g2, g3, g4, g5⟩, -⟩ := h
  have e : q_I (q_wI S 40 0 3 (q_I S 40 0 6)) 40 0 5 = nI q.1 := by rw [q_I_wI, if_neg (by omega)]; exact g4
  rw [e, g5]
  exact ⟨rfl, rfl⟩
