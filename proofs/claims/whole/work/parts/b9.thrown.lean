/-! The reference's word on what was thrown; the abstract state of two new objects -/
theorem c_mthrown (l : Launch) (S : qSt) : q_Met q_mt l 0 k_X11_thrown 1 [.inr (.inr (40, 0))] S (fun r S' => r = some (.inl (q_I S 40 0 0)) ∧ S' = S) := by
  refine q_meth zoX11_thrown q_fos (Nat.le_of_ble_eq_true rfl) ?_
  intro AT step
  refine step 40 [] 0 _ _ _ ?_
  simp only [q_vcs, q_vcc, q_vl, q_vu, ↓reduceIte, Nat.reduceEqDiff, Bool.false_eq_true, q_isc, q_mk, q_msk, zbX11_thrown, q_pad, q_ent, q_get, q_put, q_nl, q_w, List.cons_append, List.nil_append, q_aks, q_als, Nat.reduceAdd, Nat.reduceLeDiff, Nat.zero_le, true_and, and_true, Option.some.injEq, Sum.inl.injEq, Sum.inr.injEq, true_or, or_true, and_self, q_sw]
def a00 : AS := mkA Y0 defc 0 0 0 (fun _ => V0) 0 (fun _ => (0, fun _ => V0)) (fun _ => 0) 0 none 0 0 0
theorem IV_00 : IV a00 0 := ⟨⟨Y0_ok, defc_wf, Nat.zero_le _, fun _ _ => GV_0, Nat.zero_le _, fun i hi => absurd hi (Nat.not_lt_zero _), Nat.zero_le _, Nat.zero_le _⟩, rfl, fun i hi => absurd hi (Nat.not_lt_zero _)⟩
/-- the reference behind its constructor's last two calls -/
theorem RF_start {S S1 S2 : qSt} (h0 : ∀ f i j, 40 ≤ f → f < 80 → q_I S f i j = if f = 40 ∧ i = 0 ∧ j = 3 then -1 else 0) (hf1 : fr (fun f _ => f = 43 ∨ f = 47) S S1) (hM : MY S2 Y0) (hV : RV S2 0 V0) (h5 : q_I S2 40 0 19 = nI 0 ∧ q_I S2 40 0 33 = nI 0 ∧ q_I S2 40 0 34 = nI 0 ∧ q_I S2 40 0 35 = nI 0 ∧ q_I S2 40 0 36 = nI 0) (hj : ∀ j, j ≠ 19 → j ≠ 33 → j ≠ 34 → j ≠ 35 → j ≠ 36 → q_I S2 40 0 j = q_I S1 40 0 j) (hf2 : fr Fbg S1 S2) : RF S2 a00 ∧ fr Frf S S2 := by
  have e1 : ∀ j, q_I S1 40 0 j = q_I S 40 0 j := fun j => by rw [(hf1 40 0 (by decide)).1]
  have ej : ∀ j, j ≠ 19 → j ≠ 33 → j ≠ 34 → j ≠ 35 → j ≠ 36 → q_I S2 40 0 j = if j = 3 then -1 else 0 := fun j a b c d e => by
    rw [hj j a b c d e, e1, h0 40 0 j (by decide) (by decide)]
    by_cases z : j = 3
    · rw [if_pos ⟨rfl, rfl, z⟩, if_pos z]
    · rw [if_neg (fun q => z q.2.2), if_neg z]
  have er : ∀ f, f = 41 ∨ f = 42 → ∀ j, q_I S2 f 0 j = 0 := fun f hf j => by
    rw [(hf2 f 0 (by omega)).1, (hf1 f 0 (by omega)).1, h0 f 0 j (by omega) (by omega), if_neg (by omega)]
  refine ⟨⟨hM, Or.inl ⟨rfl, h5.1⟩, ⟨0, fun _ => 0, fun _ => 0, ⟨h5.2.1, by decide, fun z hz => absurd hz (Nat.not_lt_zero _)⟩, ⟨⟨fun z hz => absurd hz (Nat.not_lt_zero _), fun i hi hh => absurd hh (by show ¬ (Nat.testBit 0 i = true); simp)⟩, by show 0 = pcn 0; decide⟩⟩, ⟨h5.2.2.1, hV, fun j hj => absurd hj (Nat.not_lt_zero _)⟩, ⟨h5.2.2.2.2, fun i hi => absurd hi (Nat.not_lt_zero _)⟩, ⟨ej 1 (by decide) (by decide) (by decide) (by decide) (by decide), fun k hk => ⟨by show 0 < 256; decide, er 41 (Or.inl rfl) k⟩⟩, ej 3 (by decide) (by decide) (by decide) (by decide) (by decide), ⟨h5.2.2.2.1, er 42 (Or.inr rfl) 0, er 42 (Or.inr rfl) 1⟩, ej 47 (by decide) (by decide) (by decide) (by decide) (by decide)⟩, (hf1.mn (fun f i z => by show 40 ≤ f ∧ f < 80; omega)).tr (hf2.mn (fun f i z => by show 40 ≤ f ∧ f < 80; omega))⟩
