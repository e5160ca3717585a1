/-! Reader: numbers, words; the JDK's String of a constant -/
def dvl (T : Nat → Nat) (b : Nat) : Nat → Nat
  | 0 => 0
  | k + 1 => dvl T b k * 10 + (T (b + k) - 48)
def nmA (T : Nat → Nat) (n a : Nat) : Nat := tx T n isd (tx T n isb a)
/-- the number that stands at a -/
def nmN (T : Nat → Nat) (n a : Nat) : Nat := dvl T (tx T n isb a) (nmA T n a - tx T n isb a)
def nmE (T : Nat → Nat) (n a lo h : Nat) (e : Option (Nat × Nat)) : Option (Nat × Nat) := if nmA T n a = tx T n isb a then fal e 1 (tx T n isb a) else if lo ≤ nmN T n a ∧ nmN T n a < h then e else fal e 2 (tx T n isb a)
def nmV (T : Nat → Nat) (n a lo h : Nat) : Nat := max lo (min (h - 1) (min (nmN T n a) 1000000))
theorem i_sub (a b : Nat) : nI (a + b) - nI b = nI a := by rw [← nI_add, Int32.add_sub_cancel]
theorem i_lem {v h : Nat} (hv : v < 2 ^ 31) (hh : h < 2 ^ 31) : nI v ≤ nI h - 1 ↔ v < h := by
  cases h with
  | zero =>
    refine ⟨fun q => ?_, fun q => by omega⟩
    rw [i_m0] at q
    exact absurd q (by rw [fa_le, nI_toInt hv]; have : (-1 : Int32).toInt = -1 := by decide
                       rw [this]; omega)
  | succ h => rw [i_m1, nI_leI hv (by omega)]; omega
theorem i_nm1 {v : Nat} (h : v < 2 ^ 31) : ¬ nI v < -1 := by
  rw [fa_lt, nI_toInt h]
  have : (-1 : Int32).toInt = -1 := by decide
  rw [this]
  omega
theorem i_clm {lo h v : Nat} (hl : lo < 2 ^ 30) (hh : h < 2 ^ 30) (hv : v < 2 ^ 30) : (if nI lo < (if nI v < nI h - 1 then nI v else nI h - 1) then (if nI v < nI h - 1 then nI v else nI h - 1) else nI lo) = nI (max lo (min (h - 1) v)) := by
  cases h with
  | zero =>
    rw [i_m0]
    simp only [if_neg (i_nm1 (v := v) (by omega)), if_neg (i_nm1 (v := lo) (by omega))]
    congr 1
    omega
  | succ h =>
    rw [i_m1, i_min (by omega) (by omega), i_max (by omega) (by omega)]
    congr 1
theorem min_dv (x d : Nat) : min (min x 1000000 * 10 + d) 1000000 = min (x * 10 + d) 1000000 := by omega
set_option maxHeartbeats 1000000 in
theorem c_readNumber (l : Launch) (S : qSt) {T : Nat → Nat} {n a lo h : Nat} {e : Option (Nat × Nat)} (hR : RD S T n a e) (hlo : lo < 2 ^ 10) (hh : h < 2 ^ 10) : q_Met q_mt l 2 k_X4_readNumber 1 [.inr (.inr (1, 0)), .inl (nI lo), .inl (nI h - 1)] S (fun r S' => r = some (.inl (nI (nmV T n a lo h))) ∧ RP S S' T n (nmA T n a) (nmE T n a lo h e)) := by
  refine q_meth zoX4_readNumber q_fos (Nat.le_of_ble_eq_true rfl) ?_
  intro AT step
  have hn := hR.1
  have hb : tx T n isb a ≤ n := tx_le hn.2.1
  have hL : ∀ (m k : Nat) (S1 : qSt), n - (tx T n isb a + k) ≤ m → RP S S1 T n (tx T n isb a + k) e → tx T n isd (tx T n isb a + k) = nmA T n a → AT 1 [some (.inr (.inr (1, 0))), some (.inl (nI lo)), some (.inl (nI h - 1)), some (.inl (nI (tx T n isb a))), some (.inl (nI (min (dvl T (tx T n isb a) k) 1000000)))] [] S1 := by
    intro m
    induction m with
    | zero => ?_
    | succ m ih => ?_
    all_goals
      intro k S1 hm hR1 ht
      have hn1 := hR1.1.1
      have g3 := hR1.1.2.1.2.2.1
      have g2 := hR1.1.2.1.2.1
      have fin : tb T n isd (tx T n isb a + k) = false → AT 2 [some (.inr (.inr (1, 0))), some (.inl (nI lo)), some (.inl (nI h - 1)), some (.inl (nI (tx T n isb a))), some (.inl (nI (min (dvl T (tx T n isb a) k) 1000000)))] [] S1 := by
        intro hf
        have hA : nmA T n a = tx T n isb a + k := by rw [← ht, tx_f hf]
        have hN : nmN T n a = dvl T (tx T n isb a) k := by unfold nmN; rw [hA, Nat.add_sub_cancel_left]
        refine step 40 [] 2 _ _ _ ?_
        simp only [q_vcs, q_vcc, q_vl, q_vu, ↓reduceIte, Nat.reduceEqDiff, Bool.false_eq_true, q_isc, q_mk, q_msk, zbX4_readNumber, q_pad, q_ent, q_get, q_put, q_nl, q_w, List.cons_append, List.nil_append, q_aks, q_als, Nat.reduceAdd, Nat.reduceLeDiff, Nat.zero_le, true_and, and_true, Option.some.injEq, Sum.inl.injEq, Sum.inr.injEq, true_or, or_true, and_self, q_sw]
        have hc := i_clm (lo := lo) (h := h) (v := min (dvl T (tx T n isb a) k) 1000000) (by omega) (by omega) (by omega)
        rw [g3, nI_eq (by omega) (by omega), nI_ltI (by omega) (by omega), i_lem (by omega) (by omega), hc, ← hN]
        refine ⟨fun h1 => ⟨fun h2 => ?_, fun h2 => ⟨fun h3 => ?_, fun h3 => ?_⟩⟩, fun h1 => ?_⟩
        · refine ⟨_, _, (by decide : 0 < 2), c_fail l S1 (k := 2) hR1.1 (by decide) (by omega), fun S2 h' => ⟨by decide, by decide, rfl, ?_⟩⟩
          unfold nmE
          rw [hA, if_neg h1, if_neg (by omega)]
          exact hR1.tr h'
        · refine ⟨by decide, by decide, rfl, ?_⟩
          unfold nmE
          rw [hA, if_neg h1, if_pos (by omega)]
          exact hR1
        · refine ⟨_, _, (by decide : 0 < 2), c_fail l S1 (k := 2) hR1.1 (by decide) (by omega), fun S2 h' => ⟨by decide, by decide, rfl, ?_⟩⟩
          unfold nmE
          rw [hA, if_neg h1, if_neg (by omega)]
          exact hR1.tr h'
        · refine ⟨_, _, (by decide : 0 < 2), c_fail l S1 (k := 1) hR1.1 (by decide) (by omega), fun S2 h' => ⟨by decide, by decide, rfl, ?_⟩⟩
          unfold nmE
          rw [hA, if_pos h1]
          exact hR1.tr h'
      refine step 40 [(1, [true, true, true, true, true]), (2, [true, true, true, true, true])] 1 _ _ _ ?_
      simp only [q_vcs, q_vcc, q_vl, q_vu, ↓reduceIte, Nat.reduceEqDiff, Bool.false_eq_true, q_isc, q_mk, q_msk, zbX4_readNumber, q_pad, q_ent, q_get, q_put, q_nl, q_w, List.cons_append, List.nil_append, q_aks, q_als, Nat.reduceAdd, Nat.reduceLeDiff, Nat.zero_le, true_and, and_true, Option.some.injEq, Sum.inl.injEq, Sum.inr.injEq, true_or, or_true, and_self, q_sw]
      rw [g3, g2, nI_leI (by omega) (by omega)]
      refine ⟨fun h1 => fin (by unfold tb; simp; omega), fun h1 => ?_⟩
      try exact absurd hm (by omega)
    refine q_u1 (by decide) (c_isDigitHere l S1 hR1.1) ?_
    rw [bI_0]
    refine ⟨fin, fun h2 => ?_⟩
    have h2 : tb T n isd (tx T n isb a + k) = true := ts_nf h2
    have hd := (tb_lt h2).2
    have hd2 : 48 ≤ T (tx T n isb a + k) ∧ T (tx T n isb a + k) ≤ 57 := by unfold isd at hd; simpa using hd
    refine q_u1 (by decide) (c_here l S1 hR1.1) ?_
    have e1 : hr T n (tx T n isb a + k) = some (T (tx T n isb a + k)) := by unfold hr; rw [if_pos (by omega)]
    have e2 : nI (min (dvl T (tx T n isb a) k) 1000000) * 10 + oI (some (T (tx T n isb a + k))) - 48 = nI (min (dvl T (tx T n isb a) k) 1000000 * 10 + (T (tx T n isb a + k) - 48)) := by
      rw [show (10 : Int32) = nI 10 from rfl, pk_mul, show oI (some (T (tx T n isb a + k))) = nI (T (tx T n isb a + k)) from rfl, nI_add, show (48 : Int32) = nI 48 from rfl, show min (dvl T (tx T n isb a) k) 1000000 * 10 + T (tx T n isb a + k) = (min (dvl T (tx T n isb a) k) 1000000 * 10 + (T (tx T n isb a + k) - 48)) + 48 by omega, i_sub]
    rw [e1, e2, show (1000000 : Int32) = nI 1000000 from rfl, i_min (by omega) (by omega), min_dv, g3, nI_1]
    refine ⟨by decide, ?_⟩
    exact ih (k + 1) _ (by omega) (hR1.tr (hR1.1.at (by omega))) (by rw [← ht]; exact (tx_t h2).symm)
  refine step 20 [(1, [true, true, true, true, true])] 0 _ _ _ ?_
  simp only [q_vcs, q_vcc, q_vl, q_vu, ↓reduceIte, Nat.reduceEqDiff, Bool.false_eq_true, q_isc, q_mk, q_msk, zbX4_readNumber, q_pad, q_ent, q_get, q_put, q_nl, q_w, List.cons_append, List.nil_append, q_aks, q_als, Nat.reduceAdd, Nat.reduceLeDiff, Nat.zero_le, true_and, and_true, Option.some.injEq, Sum.inl.injEq, Sum.inr.injEq, true_or, or_true, and_self, q_sw]
  refine ⟨_, _, (by decide : 0 < 2), c_skipBlanks l S hR, fun S1 h1 => ?_⟩
  rw [h1.1.2.1.2.2.1]
  exact hL (n - tx T n isb a) 0 S1 (by omega) h1 rfl
theorem c_readWord (l : Launch) (S : qSt) {T : Nat → Nat} {n a : Nat} {e : Option (Nat × Nat)} (hR : RD S T n a e) : q_Met q_mt l 1 k_X4_readWord 0 [.inr (.inr (1, 0))] S (fun _ S' => RD S' T n (tx T n isl (tx T n isb a)) e ∧ q_I S' 1 0 4 = nI (tx T n isb a) ∧ fr Fr1 S S') := by
  refine q_meth zoX4_readWord q_fos (Nat.le_of_ble_eq_true rfl) ?_
  intro AT step
  have hn := hR.1
  have hb : tx T n isb a ≤ n := tx_le hn.2.1
  have hL : ∀ (m k : Nat) (S1 : qSt), n - k ≤ m → RD S1 T n k e ∧ q_I S1 1 0 4 = nI (tx T n isb a) ∧ fr Fr1 S S1 → tx T n isl k = tx T n isl (tx T n isb a) → AT 1 [some (.inr (.inr (1, 0)))] [] S1 := by
    intro m
    induction m with
    | zero => ?_
    | succ m ih => ?_
    all_goals
      intro k S1 hm hR1 ht
      have hn1 := hR1.1.1
      have g3 := hR1.1.2.1.2.2.1
      have g2 := hR1.1.2.1.2.1
      have fin : tb T n isl k = false → RD S1 T n (tx T n isl (tx T n isb a)) e ∧ q_I S1 1 0 4 = nI (tx T n isb a) ∧ fr Fr1 S S1 := by
        intro hf
        rw [← ht, tx_f hf]
        exact hR1
      refine step 40 [(1, [true])] 1 _ _ _ ?_
      simp only [q_vcs, q_vcc, q_vl, q_vu, ↓reduceIte, Nat.reduceEqDiff, Bool.false_eq_true, q_isc, q_mk, q_msk, zbX4_readWord, q_pad, q_ent, q_get, q_put, q_nl, q_w, List.cons_append, List.nil_append, q_aks, q_als, Nat.reduceAdd, Nat.reduceLeDiff, Nat.zero_le, true_and, and_true, Option.some.injEq, Sum.inl.injEq, Sum.inr.injEq, true_or, or_true, and_self, q_sw]
      rw [g3, g2, nI_leI (by omega) (by omega)]
      refine ⟨fun h1 => fin (by unfold tb; simp; omega), fun h1 => ?_⟩
      try exact absurd hm (by omega)
    have e1 : hr T n k = some (T k) := by unfold hr; rw [if_pos (by omega)]
    have ht8 := (hR1.1.2.2 k (by omega)).1
    have hq : q_Met q_mt l 0 k_X4_here 1 [.inr (.inr (1, 0))] S1 (fun r S' => r = some (.inl (nI (T k))) ∧ S' = S1) := by
      have := c_here l S1 hR1.1
      rw [e1] at this
      exact this
    refine q_u1 (by decide) hq ?_
    rw [show (97 : Int32) = nI 97 from rfl, nI_ltI (by omega) (by omega)]
    refine ⟨fun h2 => fin (by unfold tb isl; simp; omega), fun h2 => ?_⟩
    refine q_u1 (by decide) hq ?_
    rw [show (122 : Int32) = nI 122 from rfl, nI_ltI (by omega) (by omega), g3, nI_1]
    refine ⟨fun h3 => fin (by unfold tb isl; simp; omega), fun h3 => ?_⟩
    have hat := hR1.1.at (b := k + 1) (by omega)
    refine ih (k + 1) _ (by omega) ⟨hat.1, hat.2.1.trans hR1.2.1, hR1.2.2.tr hat.2.2⟩ ?_
    rw [← ht]
    exact (tx_t (by unfold tb isl; simp; omega)).symm
  refine step 20 [(1, [true])] 0 _ _ _ ?_
  simp only [q_vcs, q_vcc, q_vl, q_vu, ↓reduceIte, Nat.reduceEqDiff, Bool.false_eq_true, q_isc, q_mk, q_msk, zbX4_readWord, q_pad, q_ent, q_get, q_put, q_nl, q_w, List.cons_append, List.nil_append, q_aks, q_als, Nat.reduceAdd, Nat.reduceLeDiff, Nat.zero_le, true_and, and_true, Option.some.injEq, Sum.inl.injEq, Sum.inr.injEq, true_or, or_true, and_self, q_sw]
  refine ⟨_, _, (by decide : 0 < 1), c_skipBlanks l S hR, fun S1 h1 => ?_⟩
  rw [h1.1.2.1.2.2.1]
  refine hL (n - tx T n isb a) (tx T n isb a) _ (by omega) ⟨?_, ?_, ?_⟩ rfl
  · obtain ⟨⟨k1, k2, k3⟩, ⟨g1, g2, g3, g4, g5⟩, k5⟩ := h1.1
    exact ⟨⟨k1, k2, k3⟩, ⟨g1, g2, g3, g4, g5⟩, k5⟩
  · rw [q_I_wI, if_pos ⟨rfl, rfl, rfl⟩]
  · exact fr.wI h1.2.2 rfl
/-- the letters of text i -/
def sw (i : Nat) : List Nat := (q_sbyt.getD i []).map (fun x => x.toNatClampNeg)
theorem sw_tab : ∀ i, i < 20 → q_slen.getD i 0 = (sw i).length ∧ (sw i).length < 40 ∧ ∀ k, k < (sw i).length → (((q_sbyt.getD i []).getD k 0 &&& 255).toUInt32 % 65536).toInt32 = nI ((sw i).getD k 0) ∧ (sw i).getD k 0 < 128 := by decide +kernel
theorem c_coder (l : Launch) (S : qSt) {i : Nat} : q_Met q_mt l 0 k_J0_coder_7d493 1 [.inr (.inr (99, i))] S (fun r S' => r = some (.inl 0) ∧ S' = S) := by
  refine q_meth zoJ0_coder_7d493 q_fos (Nat.le_of_ble_eq_true rfl) ?_
  intro AT step
  refine step 20 [] 0 _ _ _ ?_
  simp only [q_vcs, q_vcc, q_vl, q_vu, ↓reduceIte, Nat.reduceEqDiff, Bool.false_eq_true, q_isc, q_mk, q_msk, zbJ0_coder_7d493, q_pad, q_ent, q_get, q_put, q_nl, q_w, List.cons_append, List.nil_append, q_aks, q_als, Nat.reduceAdd, Nat.reduceLeDiff, Nat.zero_le, true_and, and_true, Option.some.injEq, Sum.inl.injEq, Sum.inr.injEq, true_or, or_true, and_self, q_sw]
  refine ⟨fun h => absurd h (by decide), fun _ => (by first | trivial | rfl | exact ⟨rfl, rfl⟩)⟩
theorem c_slength (l : Launch) (S : qSt) {i : Nat} (hi : i < 20) : q_Met q_mt l 1 k_J0_length_8abf5 1 [.inr (.inr (99, i))] S (fun r S' => r = some (.inl (nI (sw i).length)) ∧ S' = S) := by
  refine q_meth zoJ0_length_8abf5 q_fos (Nat.le_of_ble_eq_true rfl) ?_
  intro AT step
  refine step 20 [] 0 _ _ _ ?_
  simp only [q_vcs, q_vcc, q_vl, q_vu, ↓reduceIte, Nat.reduceEqDiff, Bool.false_eq_true, q_isc, q_mk, q_msk, zbJ0_length_8abf5, q_pad, q_ent, q_get, q_put, q_nl, q_w, List.cons_append, List.nil_append, q_aks, q_als, Nat.reduceAdd, Nat.reduceLeDiff, Nat.zero_le, true_and, and_true, Option.some.injEq, Sum.inl.injEq, Sum.inr.injEq, true_or, or_true, and_self, q_sw]
  refine q_u1 (by decide) (c_coder l S) ?_
  obtain ⟨h1, h2, -⟩ := sw_tab i hi
  rw [h1]
  have : nI (sw i).length >>> ((0 : Int32) &&& 31) = nI (sw i).length := by
    have := pk_shrN (n := (sw i).length) (by omega) 0 0 (by decide)
    simp at this ⊢
  exact ⟨this, rfl⟩
theorem c_isLatin1 (l : Launch) (S : qSt) {i : Nat} : q_Met q_mt l 0 k_J0_isLatin1_aae02 1 [.inr (.inr (99, i))] S (fun r S' => r = some (.inl 1) ∧ S' = S) := by
  refine q_meth zoJ0_isLatin1_aae02 q_fos (Nat.le_of_ble_eq_true rfl) ?_
  intro AT step
  refine step 20 [] 0 _ _ _ ?_
  simp only [q_vcs, q_vcc, q_vl, q_vu, ↓reduceIte, Nat.reduceEqDiff, Bool.false_eq_true, q_isc, q_mk, q_msk, zbJ0_isLatin1_aae02, q_pad, q_ent, q_get, q_put, q_nl, q_w, List.cons_append, List.nil_append, q_aks, q_als, Nat.reduceAdd, Nat.reduceLeDiff, Nat.zero_le, true_and, and_true, Option.some.injEq, Sum.inl.injEq, Sum.inr.injEq, true_or, or_true, and_self, q_sw]
  refine ⟨fun h => absurd h (by decide), fun _ => ⟨fun h => absurd trivial h, fun _ => trivial⟩⟩
def w_dk9 (cc : ByteArray) : Nat → List (Instr × Nat) → Bool
  | _, [] => true
  | pc, x :: xs => (match decode cc pc with
    | .ok y => decide (y = x)
    | _ => false) && w_dk9 cc (pc + x.2) xs
theorem w_dk9_c {cc : ByteArray} {pc : Nat} {x : Instr × Nat} {xs : List (Instr × Nat)} (h : w_dk9 cc pc (x :: xs) = true) : decode cc pc = .ok x ∧ w_dk9 cc (pc + x.2) xs = true := by
  unfold w_dk9 at h
  rw [Bool.and_eq_true] at h
  refine ⟨?_, h.2⟩
  have h1 := h.1
  split at h1
  · rename_i y hy
    rw [hy, of_decide_eq_true h1]
  · cases h1
theorem d_J3_0 : w_dk9 cJ3_checkIndex_8e157 0 [(.iload_n 0, 1), (.ifCond .lt 8, 3), (.iload_n 0, 1), (.iload_n 1, 1), (.if_icmp .lt 10, 3)] = true := by decide +kernel
theorem d_J3_16 : w_dk9 cJ3_checkIndex_8e157 16 [(.iload_n 0, 1), (.ireturn, 1)] = true := by decide +kernel
theorem d_J0_0 : w_dk9 cJ0_checkIndex_df160 0 [(.iload_n 0, 1), (.iload_n 1, 1), (.getstatic 1053, 3), (.invokestatic 1059, 3), (.pop, 1), (.return_, 1)] = true := by decide +kernel
/-- Preconditions.checkIndex, whatever stands for its third argument -/
theorem c_pcheckR (l : Launch) (S : qSt) (G : qG) {k n : Nat} (hk : k < n) (hn : n < 2 ^ 31) (v : Value) (hv : v = .null ∨ ∃ t, v = .ref t) : Met l yJ3_checkIndex_8e157 (q_ws (yJ3_checkIndex_8e157, cJ3_checkIndex_8e157, 3, some .int)) (q_rm 0) (fun a U => a = #[.int (nI k), .int (nI n), v] ∧ q_W G U ∧ q_H G S U.heap) (q_Qc G 1 (fun r S' => r = some (.inl (nI k)) ∧ S' = S)) 0 0 (q_A G) := by
  refine Met.ofW (cc := cJ3_checkIndex_8e157) (maxL := 3) (ret := some .int) (by decide) rfl ?_
  intro p e s m args below meth c s₁ B hml hvv
  obtain ⟨rfl, hW, hH⟩ := hvv
  have hx := B.exec
  have hb := B.bytes
  have hr := B.returns
  have hlocks := B.notSynchronized
  have hl := lv_entry [.int (nI k), .int (nI n), v] (n := 3) (by rcases hv with rfl | ⟨t, rfl⟩ <;> exact Nat.le_of_ble_eq_true rfl)
  have hl : lv_has (lg_sl [.int (nI k), .int (nI n), v] ++ List.replicate (3 - (lg_sl [.int (nI k), .int (nI n), v]).length) Slot.unset).toArray 3 [(0, .int (nI k)), (1, .int (nI n))] := ⟨hl.1, hl.2.1, fun q hq => hl.2.2 q (by
    rcases hv with rfl | ⟨t, rfl⟩ <;> (rcases List.mem_cons.mp hq with rfl | hq
                                       · exact List.mem_cons_self
                                       · rcases List.mem_cons.mp hq with rfl | hq
                                         · exact List.mem_cons_of_mem _ List.mem_cons_self
                                         · cases hq))⟩
  show W p l e _ s m _ below meth c s.heap [] 0 0 _ (entryFrame m ([.int (nI k), .int (nI n), v] : List Value).toArray 3)
  rw [lg_entry_eq]
  generalize (lg_sl [.int (nI k), .int (nI n), v] ++ List.replicate (3 - (lg_sl [.int (nI k), .int (nI n), v]).length) Slot.unset).toArray = ls at hl ⊢
  obtain ⟨d1, hd⟩ := w_dk9_c d_J3_0
  obtain ⟨d2, hd⟩ := w_dk9_c hd
  obtain ⟨d3, hd⟩ := w_dk9_c hd
  obtain ⟨d4, hd⟩ := w_dk9_c hd
  obtain ⟨d5, -⟩ := w_dk9_c hd
  obtain ⟨f1, hd⟩ := w_dk9_c d_J3_16
  obtain ⟨f2, -⟩ := w_dk9_c hd
  refine lv_iload_n hx hb d1 rfl (lv_at hl 0 rfl) ?_
  refine lv_if_lt (tgt := 9) hx hb d2 rfl (fun h => absurd h (nI_pos (by omega))) (fun _ => ?_)
  refine lv_iload_n hx hb d3 rfl (lv_at hl 0 rfl) ?_
  refine lv_iload_n hx hb d4 rfl (lv_at hl 1 rfl) ?_
  refine lv_icmp_lt (tgt := 16) hx hb d5 rfl (fun _ => ?_) (fun h => absurd (nI_lt hk hn) h)
  refine lv_iload_n hx hb f1 rfl (lv_at hl 0 rfl) ?_
  exact W.iret (Qc := q_Qc G 1 (fun r S' => r = some (.inl (nI k)) ∧ S' = S)) hx hb hr (fun t ht hWm => ⟨⟨some (.inl (nI k)), S, rfl, ⟨_, rfl⟩, ⟨rfl, rfl⟩, by rw [ht]; exact hH, hW.moved hWm.alike⟩, va_S.rf.F ht⟩) (fun q hq => by cases hq) f2 hlocks
set_option maxHeartbeats 1000000 in
theorem c_scheck (l : Launch) (S : qSt) {k n : Nat} (hk : k < n) (hn : n < 2 ^ 31) : q_Met q_mt l 1 k_J0_checkIndex_df160 0 [.inl (nI k), .inl (nI n)] S (fun _ S' => S' = S) := by
  intro G q hq
  obtain rfl : (yJ0_checkIndex_df160, cJ0_checkIndex_df160, 2, none) = q := Option.some.inj hq
  refine Met.ofW (cc := cJ0_checkIndex_df160) (maxL := 2) (ret := none) (by decide) rfl ?_
  intro p e s m args below meth c s₁ B hml hvv
  obtain ⟨rfl, hW, hH, hos, hE⟩ := hvv
  have hx := B.exec
  have hb := B.bytes
  have hr := B.returns
  have hlocks := B.notSynchronized
  have hts0 := atoms_spec (ws := q_ws (yJ0_checkIndex_df160, cJ0_checkIndex_df160, 2, none)) B.pre
  have hts : ∀ w ∈ q_TB, w.before _ s = true := fun w hw => hts0 w (List.mem_cons_of_mem _ hw)
  have hown : s.vm.findClass "java/lang/String" = some m.cls := findClass_of_methodNamed B.named
  have hl := lv_entry [.int (nI k), .int (nI n)] (n := 2) (Nat.le_of_ble_eq_true rfl)
  show W p l e _ s m _ below meth c s.heap [] 0 0 _ (entryFrame m ([.int (nI k), .int (nI n)] : List Value).toArray 2)
  rw [lg_entry_eq]
  generalize (lg_sl [.int (nI k), .int (nI n)] ++ List.replicate (2 - (lg_sl [.int (nI k), .int (nI n)]).length) Slot.unset).toArray = ls at hl ⊢
  have hl : lv_has ls 2 [(0, .int (nI k)), (1, .int (nI n))] := hl
  obtain ⟨d1, hd⟩ := w_dk9_c d_J0_0
  obtain ⟨d2, hd⟩ := w_dk9_c hd
  obtain ⟨d3, hd⟩ := w_dk9_c hd
  obtain ⟨d4, hd⟩ := w_dk9_c hd
  obtain ⟨d5, hd⟩ := w_dk9_c hd
  obtain ⟨d6, -⟩ := w_dk9_c hd
  refine lv_iload_n hx hb d1 rfl (lv_at hl 0 rfl) ?_
  refine lv_iload_n hx hb d2 rfl (lv_at hl 1 rfl) ?_
  have hfl : Cond.fieldLink "java/lang/String" 1053 "jdk/internal/util/Preconditions" "SIOOBE_FORMATTER" "Ljava/util/function/BiFunction;" ∈ q_TB := koRJ0.1 (1053, 6, 3, 0) (by decide)
  have hgo : ∀ v : Value, (v = .null ∨ ∃ t, v = .ref t) → va_Z "jdk/internal/util/Preconditions" "SIOOBE_FORMATTER" "Ljava/util/function/BiFunction;" v (q_A G) s s.heap → W p l e (headSpec (q_ws (yJ0_checkIndex_df160, cJ0_checkIndex_df160, 2, none)) (q_rm 1)).room s m [Value.int (nI k), Value.int (nI n)].toArray below meth c s.heap [] 0 0 (MQ below (q_Qc G 0 (fun _ S' => S' = S)) [Value.int (nI k), Value.int (nI n)].toArray s 0 0 (q_A G)) (F0 m 2 ls [.int (nI n), .int (nI k)]) := by
    intro v hv hZ
    refine va_gets hx hb hZ va_S.rf hown (hts _ hfl) (fun _ h => h) d3 ?_
    obtain ⟨q, hq, w1, w2, w3, w4, hdd, h150⟩ := koRJ0.1 (1059, 2, k_J3_checkIndex_8e157, 3) (by decide)
    obtain rfl : (yJ3_checkIndex_8e157, cJ3_checkIndex_8e157, 3, some .int) = q := Option.some.inj hq
    have hrun := va_runS (R := (headSpec (q_ws (yJ0_checkIndex_df160, cJ0_checkIndex_df160, 2, none)) (q_rm 1)).room) (p := p) (l := l) (e := e) (below := below) (meth := meth) (locs := []) (cells := 0) (slots := 0) (H := s.heap) (g := F0 m 5 ls [v, .int (nI n), .int (nI k)]) (As := [.int (nI k), .int (nI n), v]) (rest := []) (Ts := q_TB) ⟨hx, hb, hml, hown, hts⟩ (c_pcheckR l S G hk hn v hv) (bytes := cJ3_checkIndex_8e157) (maxL := 3) (ret := some .int) (n := 3) ⟨q_callB (d := 1) (d' := 0) hts (by decide) ⟨rfl, rfl⟩ w1 w3 w4 hdd h150, hts _ w2⟩ ⟨fun a U g mk h => ⟨h.1, q_W.moved (u := U) (U := U.calling g mk a) (Vm.Alike.refl U.vm) h.2.1, h.2.2⟩, fun U hU hWm => ⟨rfl, hW.moved hWm.alike, by rw [hU]; exact hH⟩⟩ rfl rfl hl.1 rfl (lv_roomN (Nat.zero_le _)) d4 ⟨Nat.zero_le _, Nat.zero_le _⟩
    refine q_after hrun va_S.rf (fun r S' H1 locs1 hty hp hH1 hS1 => ?_)
    obtain ⟨rfl, rfl⟩ := hp
    refine lv_pop hx hb d5 rfl ?_
    exact W.vret (Qc := q_Qc G 0 (fun _ S9 => S9 = S')) hx hb hr (fun t ht hWm => ⟨⟨none, S', rfl, rfl, rfl, by rw [ht]; exact hH1, hW.moved hWm.alike⟩, hS1.F ht⟩) (fun q hq => hS1.2.2 q hq) d6 hlocks
  rcases hE.2.2.2.2.2.2 with hZ | ⟨t, hZ⟩
  · exact hgo _ (Or.inl rfl) hZ
  · exact hgo _ (Or.inr ⟨t, rfl⟩) hZ
theorem c_lcharAt (l : Launch) (S : qSt) {i k : Nat} (hi : i < 20) (hk : k < (sw i).length) : q_Met q_mt l 2 k_J1_charAt_3b067 1 [.inr (.inr (98, i)), .inl (nI k)] S (fun r S' => r = some (.inl (nI ((sw i).getD k 0))) ∧ S' = S) := by
  refine q_meth zoJ1_charAt_3b067 q_fos (Nat.le_of_ble_eq_true rfl) ?_
  intro AT step
  refine step 20 [] 0 _ _ _ ?_
  simp only [q_vcs, q_vcc, q_vl, q_vu, ↓reduceIte, Nat.reduceEqDiff, Bool.false_eq_true, q_isc, q_mk, q_msk, zbJ1_charAt_3b067, q_pad, q_ent, q_get, q_put, q_nl, q_w, List.cons_append, List.nil_append, q_aks, q_als, Nat.reduceAdd, Nat.reduceLeDiff, Nat.zero_le, true_and, and_true, Option.some.injEq, Sum.inl.injEq, Sum.inr.injEq, true_or, or_true, and_self, q_sw]
  obtain ⟨h1, h2, h3⟩ := sw_tab i hi
  rw [h1]
  refine q_u0 (by decide) (c_scheck l S (k := k) (n := (sw i).length) hk (by omega)) ?_
  refine ⟨i_in hk (by omega), ?_⟩
  rw [i_cl (by omega), (h3 k hk).1]
  refine ⟨?_, rfl, rfl⟩
  have h4 := (h3 k hk).2
  have : ∀ x, x < 128 → ((nI x).toUInt32 % 65536).toInt32 = nI x := by decide +kernel
  exact this _ h4
theorem c_charAt (l : Launch) (S : qSt) {i k : Nat} (hi : i < 20) (hk : k < (sw i).length) : q_Met q_mt l 3 k_J0_charAt_5068e 1 [.inr (.inr (99, i)), .inl (nI k)] S (fun r S' => r = some (.inl (nI ((sw i).getD k 0))) ∧ S' = S) := by
  refine q_meth zoJ0_charAt_5068e q_fos (Nat.le_of_ble_eq_true rfl) ?_
  intro AT step
  refine step 20 [] 0 _ _ _ ?_
  simp only [q_vcs, q_vcc, q_vl, q_vu, ↓reduceIte, Nat.reduceEqDiff, Bool.false_eq_true, q_isc, q_mk, q_msk, zbJ0_charAt_5068e, q_pad, q_ent, q_get, q_put, q_nl, q_w, List.cons_append, List.nil_append, q_aks, q_als, Nat.reduceAdd, Nat.reduceLeDiff, Nat.zero_le, true_and, and_true, Option.some.injEq, Sum.inl.injEq, Sum.inr.injEq, true_or, or_true, and_self, q_sw]
  refine q_u1 (by decide) (c_isLatin1 l S) ?_
  refine ⟨fun h => absurd h (by decide), fun _ => q_u1 (by decide) (c_lcharAt l S hi hk) ?_⟩
  refine ⟨?_, rfl, rfl⟩
  have h4 := ((sw_tab i hi).2.2 k hk).2
  have : ∀ x, x < 128 → ((nI x).toUInt32 % 65536).toInt32 = nI x := by decide +kernel
  exact this _ h4
/-- what stands between two places -/
def seg (T : Nat → Nat) (w a : Nat) : List Nat := (List.range (a - w)).map (fun k => T (w + k))
def isw (T : Nat → Nat) (w a : Nat) (e : Option (Nat × Nat)) (i : Nat) : Bool := e.isNone && decide (seg T w a = sw i)
theorem seg_ne {T : Nat → Nat} {w a : Nat} {r : List Nat} {k : Nat} (hk : k < r.length) (h : ¬ T (w + k) = r.getD k 0) : ¬ seg T w a = r := fun q => by
  rw [← q] at h hk
  unfold seg at h hk
  simp at hk
  apply h
  rw [List.getD_eq_getElem?_getD]
  simp [hk]
theorem seg_eq {T : Nat → Nat} {w a : Nat} {r : List Nat} (hl : a - w = r.length) (h : ∀ k, k < r.length → T (w + k) = r.getD k 0) : seg T w a = r := by
  unfold seg
  rw [hl]
  apply List.ext_getElem
  · simp
  · intro k h1 h2
    simp
    rw [h k h2, List.getD_eq_getElem?_getD]
    simp [h2]
theorem c_isWord (l : Launch) (S : qSt) {T : Nat → Nat} {n a w i : Nat} {e : Option (Nat × Nat)} (hR : RD S T n a e) (hw : q_I S 1 0 4 = nI w) (hwa : w ≤ a) (hi : i < 20) : q_Met q_mt l 4 k_X4_isWord 1 [.inr (.inr (1, 0)), .inr (.inr (99, i))] S (fun r S' => r = some (.inl (bI (isw T w a e i))) ∧ S' = S) := by
  refine q_meth zoX4_isWord q_fos (Nat.le_of_ble_eq_true rfl) ?_
  intro AT step
  obtain ⟨t1, t2, t3⟩ := sw_tab i hi
  have hn := hR.1
  have g3 := hR.2.1.2.2.1
  have hL : ∀ (m j : Nat), j + m = (sw i).length → e = none → a - w = (sw i).length → (∀ k, k < j → T (w + k) = (sw i).getD k 0) → AT 3 [some (.inr (.inr (1, 0))), some (.inr (.inr (99, i))), some (.inl (nI j))] [] S := by
    intro m
    induction m with
    | zero =>
      intro j hj he hl hk
      refine step 20 [(3, [true, true, true])] 3 _ _ _ ?_
      simp only [q_vcs, q_vcc, q_vl, q_vu, ↓reduceIte, Nat.reduceEqDiff, Bool.false_eq_true, q_isc, q_mk, q_msk, zbX4_isWord, q_pad, q_ent, q_get, q_put, q_nl, q_w, List.cons_append, List.nil_append, q_aks, q_als, Nat.reduceAdd, Nat.reduceLeDiff, Nat.zero_le, true_and, and_true, Option.some.injEq, Sum.inl.injEq, Sum.inr.injEq, true_or, or_true, and_self, q_sw]
      refine q_u1 (by decide) (c_slength l S hi) ?_
      rw [nI_leI (by omega) (by omega)]
      refine ⟨fun _ => ?_, fun h => absurd (by omega) h⟩
      unfold isw
      rw [he, decide_eq_true (seg_eq hl (fun k h => hk k (by omega)))]
      exact (by first | trivial | rfl | exact ⟨rfl, rfl⟩)
    | succ m ih =>
      intro j hj he hl hk
      refine step 20 [(3, [true, true, true])] 3 _ _ _ ?_
      simp only [q_vcs, q_vcc, q_vl, q_vu, ↓reduceIte, Nat.reduceEqDiff, Bool.false_eq_true, q_isc, q_mk, q_msk, zbX4_isWord, q_pad, q_ent, q_get, q_put, q_nl, q_w, List.cons_append, List.nil_append, q_aks, q_als, Nat.reduceAdd, Nat.reduceLeDiff, Nat.zero_le, true_and, and_true, Option.some.injEq, Sum.inl.injEq, Sum.inr.injEq, true_or, or_true, and_self, q_sw]
      refine q_u1 (by decide) (c_slength l S hi) ?_
      rw [nI_leI (by omega) (by omega), hw, nI_add]
      refine ⟨fun h => absurd h (by omega), fun _ => ⟨i_in (by omega) (by decide), ?_⟩⟩
      refine q_u1 (by decide) (c_charAt l S (k := j) hi (by omega)) ?_
      have h8 := hR.2.2 (w + j) (by omega)
      rw [i_cl (by omega), h8.2, b8_eq _ h8.1 _ (t3 j (by omega)).2, nI_1]
      refine ⟨fun h => ih (j + 1) (by omega) he hl (fun k hk1 => ?_), fun h => ?_⟩
      · by_cases q : k = j
        · rw [q]; exact h
        · exact hk k (by omega)
      · unfold isw
        rw [decide_eq_false (seg_ne (by omega) h), Bool.and_false]
        exact ⟨rfl, rfl⟩
  refine step 20 [(3, [true, true, true])] 0 _ _ _ ?_
  simp only [q_vcs, q_vcc, q_vl, q_vu, ↓reduceIte, Nat.reduceEqDiff, Bool.false_eq_true, q_isc, q_mk, q_msk, zbX4_isWord, q_pad, q_ent, q_get, q_put, q_nl, q_w, List.cons_append, List.nil_append, q_aks, q_als, Nat.reduceAdd, Nat.reduceLeDiff, Nat.zero_le, true_and, and_true, Option.some.injEq, Sum.inl.injEq, Sum.inr.injEq, true_or, or_true, and_self, q_sw]
  rw [ek_0 hR, g3, hw]
  have e1 : nI a - nI w = nI (a - w) := by
    have := i_sub (a - w) w
    rwa [Nat.sub_add_cancel hwa] at this
  rw [e1]
  cases e with
  | some q =>
    refine ⟨fun _ => ?_, fun h => by cases h⟩
    exact (by first | trivial | rfl | exact ⟨rfl, rfl⟩)
  | none =>
    refine ⟨fun h => absurd rfl h, fun _ => q_u1 (by decide) (c_slength l S hi) ?_⟩
    rw [nI_eq (by omega) (by omega)]
    refine ⟨fun h => ?_, fun h => ?_⟩
    rotate_left
    · have hw2 : w < 2 ^ 31 := by clear h t1 t2 t3 hL; omega
      have ha2 : a < 2 ^ 31 := by clear h t1 t2 t3 hL; omega
      have ha3 : a ≤ 600 := by clear h t1 t2 t3 hL; omega
      rw [hw, g3]
      refine ⟨fun h' => absurd h' (nI_pos hw2), fun _ => ?_⟩
      refine ⟨by decide, fun _ => ?_, fun h' => absurd (by rw [i_600, nI_leI ha2 (by decide)]; exact ha3) h'⟩
      exact hL (sw i).length 0 (Nat.zero_add _) rfl h (fun k hk => absurd hk (Nat.not_lt_zero k))
    unfold isw
    have : ¬ seg T w a = sw i := fun q => by
      apply h
      rw [← q]
      unfold seg
      simp
    rw [decide_eq_false this, Bool.and_false]
    exact ⟨rfl, rfl⟩
