theorem c_isWithin (l : Launch) (S : qSt) (x lo hi : Int32) : q_Met q_mt l 1 39 1 [.inl x, .inl lo, .inl hi] S (fun r S' => r = some (.inl (if lo ≤ x ∧ x ≤ hi then 1 else 0)) ∧ S' = S) := by
  refine q_meth zoX10_isWithin q_fos (Nat.le_of_ble_eq_true rfl) ?_
  intro AT step
  refine step 20 [] 0 _ _ _ ?_
  simp only [q_vcs, q_vcc, q_vl, q_vc, q_cut, zbX10_isWithin, q_pad, q_ent, q_get, q_put, q_nl]
  trace_state
  sorry
theorem c_rowOf (l : Launch) (S : qSt) (x : Int64) (k : Int32) : q_Met q_mt l 1 240 1 [.inr (.inl x), .inl k] S (fun r S' => True ∧ S' = S) := by
  refine q_meth zoX7_rowOf q_fos (Nat.le_of_ble_eq_true rfl) ?_
  intro AT step
  refine step 20 [] 0 _ _ _ ?_
  simp only [q_vcs, q_vcc, q_vl, q_vc, q_cut, zbX7_rowOf, q_pad, q_ent, q_get, q_put, q_nl]
  trace_state
  sorry
