/-! The class's search: what is kept -/
/-- a table by numbers below 32768, with stamps -/
def TB (t n : Nat) (hq v ps : Nat → Nat) : Prop := (∀ s, s < 32768 → v s < 2 ^ 31 ∧ v s / 32768 ≤ t) ∧ (∀ s, s < 32768 → v s / 32768 = t → v s % 32768 < n ∧ s = (hq (v s % 32768) + ps (v s % 32768)) % 32768) ∧ ∀ i, i < n → ps i < 32768 ∧ v ((hq i + ps i) % 32768) = t * 32768 + i ∧ ∀ k, k < ps i → v ((hq i + k) % 32768) / 32768 = t
theorem TB_0 {t : Nat} {hq v ps : Nat → Nat} (h : ∀ s, s < 32768 → v s < 2 ^ 31 ∧ v s / 32768 < t) : TB t 0 hq v ps := by
  refine ⟨fun s hs => ⟨(h s hs).1, Nat.le_of_lt (h s hs).2⟩, fun s hs e => ?_, fun i hi => by omega⟩
  have := (h s hs).2
  omega
theorem TB_new {t n h k : Nat} {hq v ps : Nat → Nat} (hT : TB t n hq v ps) (hn : n < 32768) (ht : t < 65536) (hk : k < 32768) (h1 : v ((h + k) % 32768) / 32768 ≠ t) (h2 : ∀ j, j < k → v ((h + j) % 32768) / 32768 = t) : TB t (n + 1) (up hq n h) (up v ((h + k) % 32768) (t * 32768 + n)) (up ps n k) := by
  obtain ⟨a, b, c⟩ := hT
  have dv : (t * 32768 + n) / 32768 = t := by omega
  have dm : (t * 32768 + n) % 32768 = n := by omega
  have hv : ∀ s, v s / 32768 = t → up v ((h + k) % 32768) (t * 32768 + n) s / 32768 = t := fun s e => by
    by_cases z : s = (h + k) % 32768
    · rw [z, up_eq]; exact dv
    · rw [up_ne z]; exact e
  refine ⟨fun s hs => ?_, fun s hs e => ?_, fun i hi => ?_⟩
  · by_cases z : s = (h + k) % 32768
    · rw [z, up_eq]; exact ⟨by omega, by omega⟩
    · rw [up_ne z]; exact a s hs
  · by_cases z : s = (h + k) % 32768
    · rw [z, up_eq, dm, up_eq, up_eq]
      exact ⟨by omega, rfl⟩
    · rw [up_ne z] at e ⊢
      obtain ⟨q1, q2⟩ := b s hs e
      rw [up_ne (by omega), up_ne (by omega)]
      exact ⟨by omega, q2⟩
  · by_cases z : i = n
    · subst z
      rw [up_eq, up_eq, up_eq]
      exact ⟨hk, rfl, fun j hj => hv _ (h2 j hj)⟩
    · rw [up_ne z, up_ne z]
      obtain ⟨q1, q2, q3⟩ := c i (by omega)
      refine ⟨q1, ?_, fun j hj => hv _ (q3 j hj)⟩
      rw [up_ne (fun e => h1 (by rw [← e, q2]; omega))]
      exact q2
theorem TB_full {t n : Nat} {hq v ps : Nat → Nat} (hT : TB t n hq v ps) (h : ∀ s, s < 32768 → v s / 32768 = t) : 32768 ≤ n := by
  refine pig9 (q := fun s => v s % 32768) (c := fun x => x) (fun i j hi hj e => ?_) (fun i hi => (hT.2.1 i hi (h i hi)).1)
  have e : v i % 32768 = v j % 32768 := e
  have a := (hT.2.1 i hi (h i hi)).2
  have b := (hT.2.1 j hj (h j hj)).2
  rw [e] at a
  omega
/-- the hash -/
def hs (P : Nat → List Nat) : Nat := (lN (es P) * -7046029254386353131).toBitVec.toNat / 2 ^ 49
theorem hs_lt (P : Nat → List Nat) : hs P < 32768 := by
  have := (lN (es P) * -7046029254386353131).toBitVec.isLt
  unfold hs
  omega
theorem lN_self (x : Int64) : x = lN x.toBitVec.toNat := by
  apply Int64.toBitVec_inj.mp
  show x.toBitVec = BitVec.ofNat 64 x.toBitVec.toNat
  rw [BitVec.ofNat_toNat, BitVec.setWidth_eq]
theorem hs_eq (P : Nat → List Nat) : ((lN (es P) * -7046029254386353131).toUInt64 >>> ((Int32.toInt64 49).toUInt64 &&& Int64.toUInt64 63)).toInt64.toInt32 = nI (hs P) := by
  have h := lN_self (lN (es P) * -7046029254386353131)
  have hl := (lN (es P) * -7046029254386353131).toBitVec.isLt
  unfold hs
  rw [h, ← h, show (49 : Int32) = nI 49 from rfl]
  generalize (lN (es P) * -7046029254386353131).toBitVec.toNat = z at h hl ⊢
  rw [h, wb_shr hl (by decide), lN_i]
def HT (S : qSt) (t n : Nat) (q : Nat → Nat → List Nat) (m : Nat → Nat) : Prop := q_I S 29 0 3 = nI n ∧ q_I S 29 0 4 = nI t ∧ n ≤ 20000 ∧ t < 65536 ∧ (∀ i, i < n → q_L S 30 0 i = lN (es (q i)) ∧ q_I S 31 0 i = nI (m i)) ∧ ∃ v ps, (∀ s, s < 32768 → q_I S 32 0 s = nI (v s)) ∧ TB t n (fun i => hs (q i)) v ps
abbrev Fsr : Nat → Nat → Prop := fun f _ => f = 29 ∨ f = 30 ∨ f = 31 ∨ f = 32
def KFs (S S' : qSt) : Prop := (∀ j, j ≠ 3 → q_I S' 29 0 j = q_I S 29 0 j) ∧ (∀ j, q_M S' 29 0 j = q_M S 29 0 j) ∧ fr Fsr S S'
theorem i_mask15 (n : Nat) : nI n &&& 32767 = nI (n % 32768) := by
  have := fa_mask n 15
  simpa [fa_lit] using this
theorem i_shr15 {n : Nat} (h : n < 2 ^ 31) : ((nI n).toUInt32 >>> (Int32.toUInt32 15 &&& Int32.toUInt32 31)).toInt32 = nI (n / 32768) := i_shrN (k := 15) h (by decide)
theorem i_shl15 {n : Nat} (h : n < 65536) : nI n <<< ((15 : Int32) &&& 31) = nI (n * 32768) := i_shlN (k := 15) (by omega) (by decide)
theorem c_keepO (l : Launch) (S : qSt) {t n x : Nat} {q : Nat → Nat → List Nat} {m : Nat → Nat} {Q : Nat → List Nat} (hT : HT S t n q m) (hn : n < 20000) (hq : ∀ i, i < n → st_ok (q i)) (hQ : st_ok Q) {i0 : Nat} (hi0 : i0 < n) (he : q i0 = Q) : q_Met q_mt l 1 k_X5_keep 0 [.inr (.inr (29, 0)), .inr (.inl (lN (es Q))), .inl (nI x)] S (fun _ S' => S' = S) := by
  obtain ⟨t1, t2, t3, t4, t5, v, ps, t6, t7⟩ := hT
  have hp0 := t7.2.2 i0 hi0
  dsimp only at hp0
  rw [he] at hp0
  refine q_meth zoX5_keep q_fos (Nat.le_of_ble_eq_true rfl) ?_
  intro AT step
  have h1 : ∀ r k, k + r = ps i0 → AT 1 [some (.inr (.inr (29, 0))), some (.inr (.inl (lN (es Q)))), none, some (.inl (nI x)), some (.inl (nI ((hs Q + k) % 32768))), some (.inl (nI k)), none, none] [] S := by
    intro r
    induction r with
    | zero =>
      intro k hk
      have hk : k = ps i0 := by omega
      subst hk
      have hlt : (hs Q + ps i0) % 32768 < 32768 := Nat.mod_lt _ (by decide)
      refine step 40 [(1, [true, true, true, true, true, true, false, false])] 1 _ _ _ ?_
      simp only [q_vcs, q_vcc, q_vl, q_vu, ↓reduceIte, Nat.reduceEqDiff, Bool.false_eq_true, q_isc, q_mk, q_msk, zbX5_keep, q_pad, q_ent, q_get, q_put, q_nl, q_w, List.cons_append, List.nil_append, q_aks, q_als, Nat.reduceAdd, Nat.reduceLeDiff, Nat.zero_le, true_and, and_true, Option.some.injEq, Sum.inl.injEq, Sum.inr.injEq, true_or, or_true, and_self, q_sw]
      rw [t1, t2, i_cl (by omega), t6 _ hlt, hp0.2.1, i_shr15 (by omega), i_mask15, show (t * 32768 + i0) / 32768 = t by omega, show (t * 32768 + i0) % 32768 = i0 by omega, show (32768 : Int32) = nI 32768 from rfl, show (20000 : Int32) = nI 20000 from rfl, nI_leI (by decide) (by omega), nI_leI (by decide) (by omega), nI_leI (by omega) (by omega), i_cl (by omega), (t5 i0 hi0).1, he, l_cmp (by have := es_lt hQ; omega) (by have := es_lt hQ; omega)]
      refine ⟨fun h => absurd h (by omega), fun _ => ⟨fun h => absurd h (by omega), fun _ => ⟨i_in (by omega) (by decide), fun _ => ⟨fun h => absurd h (by omega), fun _ => ⟨i_in (by omega) (by decide), fun h => absurd rfl h, fun _ => trivial⟩⟩, fun h => absurd rfl h⟩⟩⟩
    | succ r ih =>
      intro k hk
      have hlt : (hs Q + k) % 32768 < 32768 := Nat.mod_lt _ (by decide)
      have hv := hp0.2.2 k (by omega)
      have hb := (t7.2.1 _ hlt hv).1
      have h31 := (t7.1 _ hlt).1
      have ih := ih (k + 1) (by omega)
      have es1 : nI ((hs Q + k) % 32768) + 1 &&& 32767 = nI ((hs Q + (k + 1)) % 32768) := by
        rw [nI_1, i_mask15, Nat.mod_add_mod, Nat.add_assoc]
      refine step 40 [(1, [true, true, true, true, true, true, false, false])] 1 _ _ _ ?_
      simp only [q_vcs, q_vcc, q_vl, q_vu, ↓reduceIte, Nat.reduceEqDiff, Bool.false_eq_true, q_isc, q_mk, q_msk, zbX5_keep, q_pad, q_ent, q_get, q_put, q_nl, q_w, List.cons_append, List.nil_append, q_aks, q_als, Nat.reduceAdd, Nat.reduceLeDiff, Nat.zero_le, true_and, and_true, Option.some.injEq, Sum.inl.injEq, Sum.inr.injEq, true_or, or_true, and_self, q_sw]
      rw [t1, t2, es1, i_cl (by omega), t6 _ hlt, i_shr15 h31, i_mask15, hv, show (32768 : Int32) = nI 32768 from rfl, show (20000 : Int32) = nI 20000 from rfl, nI_leI (by decide) (by omega), nI_leI (by decide) (by omega), nI_leI (by omega) (by omega), i_cl (by omega), (t5 _ hb).1, l_cmp (by have := es_lt (hq _ hb); omega) (by have := es_lt hQ; omega), nI_1]
      exact ⟨fun h => absurd h (by omega), fun _ => ⟨fun h => absurd h (by omega), fun _ => ⟨i_in (by omega) (by decide), fun _ => ⟨fun h => absurd h (by omega), fun _ => ⟨i_in (by omega) (by decide), fun _ => ih, fun _ => trivial⟩⟩, fun h => absurd rfl h⟩⟩⟩
  refine step 40 [(1, [true, true, true, true, true, true, false, false])] 0 _ _ _ ?_
  simp only [q_vcs, q_vcc, q_vl, q_vu, ↓reduceIte, Nat.reduceEqDiff, Bool.false_eq_true, q_isc, q_mk, q_msk, zbX5_keep, q_pad, q_ent, q_get, q_put, q_nl, q_w, List.cons_append, List.nil_append, q_aks, q_als, Nat.reduceAdd, Nat.reduceLeDiff, Nat.zero_le, true_and, and_true, Option.some.injEq, Sum.inl.injEq, Sum.inr.injEq, true_or, or_true, and_self, q_sw]
  rw [hs_eq]
  have := h1 (ps i0) 0 (by omega)
  rw [Nat.add_zero, Nat.mod_eq_of_lt (hs_lt Q)] at this
  exact this
theorem c_keepN (l : Launch) (S : qSt) {t n x : Nat} {q : Nat → Nat → List Nat} {m : Nat → Nat} {Q : Nat → List Nat} (hT : HT S t n q m) (hn : n < 20000) (hq : ∀ i, i < n → st_ok (q i)) (hQ : st_ok Q) (hx : x < 128) (hne : ∀ i, i < n → es (q i) ≠ es Q) : q_Met q_mt l 1 k_X5_keep 0 [.inr (.inr (29, 0)), .inr (.inl (lN (es Q))), .inl (nI x)] S (fun _ S' => HT S' t (n + 1) (up q n Q) (up m n x) ∧ KFs S S') := by
  obtain ⟨t1, t2, t3, t4, t5, v, ps, t6, t7⟩ := hT
  refine q_meth zoX5_keep q_fos (Nat.le_of_ble_eq_true rfl) ?_
  intro AT step
  have h1 : ∀ r k, k + r = 32768 → (∀ j, j < k → v ((hs Q + j) % 32768) / 32768 = t) → AT 1 [some (.inr (.inr (29, 0))), some (.inr (.inl (lN (es Q)))), none, some (.inl (nI x)), some (.inl (nI ((hs Q + k) % 32768))), some (.inl (nI k)), none, none] [] S := by
    intro r
    induction r with
    | zero =>
      intro k hk hj
      have := TB_full t7 (fun s hs1 => by
        have hl := hs_lt Q
        have := hj ((s + 32768 - hs Q) % 32768) (by have := Nat.mod_lt (s + 32768 - hs Q) (show 0 < 32768 by decide); omega)
        rwa [show (hs Q + (s + 32768 - hs Q) % 32768) % 32768 = s by omega] at this)
      omega
    | succ r ih =>
      intro k hk hj
      have hlt : (hs Q + k) % 32768 < 32768 := Nat.mod_lt _ (by decide)
      have h31 := (t7.1 _ hlt).1
      have es1 : nI ((hs Q + k) % 32768) + 1 &&& 32767 = nI ((hs Q + (k + 1)) % 32768) := by
        rw [nI_1, i_mask15, Nat.mod_add_mod, Nat.add_assoc]
      have hdt : v ((hs Q + k) % 32768) / 32768 ≤ t := (t7.1 _ hlt).2
      refine step 40 [(1, [true, true, true, true, true, true, false, false])] 1 _ _ _ ?_
      simp only [q_vcs, q_vcc, q_vl, q_vu, ↓reduceIte, Nat.reduceEqDiff, Bool.false_eq_true, q_isc, q_mk, q_msk, zbX5_keep, q_pad, q_ent, q_get, q_put, q_nl, q_w, List.cons_append, List.nil_append, q_aks, q_als, Nat.reduceAdd, Nat.reduceLeDiff, Nat.zero_le, true_and, and_true, Option.some.injEq, Sum.inl.injEq, Sum.inr.injEq, true_or, or_true, and_self, q_sw]
      simp only [q_I_wI, q_I_wL, Nat.reduceEqDiff, false_and, if_false, Nat.reduceEqDiff]
      rw [t1, t2, es1, i_cl (by omega), t6 _ hlt, i_shr15 h31, i_mask15, show (32768 : Int32) = nI 32768 from rfl, show (20000 : Int32) = nI 20000 from rfl, nI_leI (by decide) (by omega), nI_leI (by decide) (by omega), nI_eq (by omega) (by omega), i_cl (k := n) (by omega), nI_1, fa_byte_small hx, fa_byte_small hx, i_shl15 t4, i_or (a := n) (b := t) (k := 15) (by omega)]
      refine ⟨fun h => absurd h (by omega), fun _ => ⟨fun h => absurd h (by omega), fun _ => ⟨i_in (by omega) (by decide), fun h => ?_, fun h => ⟨i_in (by omega) (by decide), i_in (by omega) (by decide), i_in (by omega) (by decide), ?_⟩⟩⟩⟩
      · have hb := (t7.2.1 _ hlt h).1
        have ih := ih (k + 1) (by omega) (fun j hj1 => by
          by_cases e : j = k
          · rw [e]; exact h
          · exact hj j (by omega))
        rw [nI_leI (by omega) (by omega), i_cl (by omega), (t5 _ hb).1, l_cmp (by have := es_lt (hq _ hb); omega) (by have := es_lt hQ; omega)]
        exact ⟨fun h => absurd h (by omega), fun _ => ⟨i_in (by omega) (by decide), fun _ => ih, fun h => absurd h (hne _ hb)⟩⟩
      · have hnew := TB_new (h := hs Q) (k := k) t7 (by omega) t4 (by omega) h hj
        refine ⟨⟨?_, ?_, by omega, t4, fun i hi => ⟨?_, ?_⟩, up v ((hs Q + k) % 32768) (t * 32768 + n), up ps n k, fun s hs1 => ?_, ?_⟩, fun j hj1 => ?_, fun j => rfl, ?_⟩
        · rw [q_I_wI, if_pos ⟨rfl, rfl, rfl⟩, nI_1]
        · simp [q_I_wI, q_I_wL, t2]
        · simp only [q_L_wI, q_L_wL]
          by_cases e : i = n
          · rw [if_pos ⟨trivial, trivial, e⟩, e, up_eq]
          · rw [if_neg (fun z => e z.2.2), up_ne e]
            exact (t5 i (by omega)).1
        · simp only [q_I_wI, q_I_wL, Nat.reduceEqDiff, false_and, if_false, true_and]
          by_cases e : i = n
          · rw [if_pos e, e, up_eq]
          · rw [if_neg e, up_ne e]
            exact (t5 i (by omega)).2
        · simp only [q_I_wI, q_I_wL, Nat.reduceEqDiff, false_and, if_false, true_and]
          by_cases e : s = (hs Q + k) % 32768
          · rw [if_pos e, e, up_eq]
            congr 1
            omega
          · rw [if_neg e, up_ne e]
            exact t6 s hs1
        · have e : (fun i => hs (up q n Q i)) = up (fun i => hs (q i)) n (hs Q) := by
            funext i
            unfold up
            split <;> rfl
          rw [e]
          exact hnew
        · simp only [q_I_wI, q_I_wL, Nat.reduceEqDiff, false_and, if_false, true_and]
          rw [if_neg hj1]
        · exact fr.wI (fr.wI (fr.wL (fr.wI fr.rf (Or.inr (Or.inr (Or.inr rfl)))) (Or.inr (Or.inl rfl))) (Or.inr (Or.inr (Or.inl rfl)))) (Or.inl rfl)
  refine step 40 [(1, [true, true, true, true, true, true, false, false])] 0 _ _ _ ?_
  simp only [q_vcs, q_vcc, q_vl, q_vu, ↓reduceIte, Nat.reduceEqDiff, Bool.false_eq_true, q_isc, q_mk, q_msk, zbX5_keep, q_pad, q_ent, q_get, q_put, q_nl, q_w, List.cons_append, List.nil_append, q_aks, q_als, Nat.reduceAdd, Nat.reduceLeDiff, Nat.zero_le, true_and, and_true, Option.some.injEq, Sum.inl.injEq, Sum.inr.injEq, true_or, or_true, and_self, q_sw]
  rw [hs_eq]
  have := h1 32768 0 (by omega) (fun j hj => by omega)
  rw [Nat.add_zero, Nat.mod_eq_of_lt (hs_lt Q)] at this
  exact this
