theorem c_isWithin (l : Launch) (S : qSt) (x lo hi : Int32) : q_Met q_mt l 1 k_X10_isWithin 1 [.inl x, .inl lo, .inl hi] S (fun r S' => r = some (.inl (if lo ≤ x ∧ x ≤ hi then 1 else 0)) ∧ S' = S) := by
  refine q_meth zoX10_isWithin q_fos (Nat.le_of_ble_eq_true rfl) ?_
  intro AT step
  refine step 20 [] 0 _ _ _ ?_
  simp only [q_vcs, q_vcc, q_vl, q_vu1, q_vu2, q_isc, q_mk, q_msk, zbX10_isWithin, q_pad, q_ent, q_get, q_put, q_nl]
  simp
theorem c_rowOf (l : Launch) (S : qSt) (x : Int64) (k : Int32) : q_Met q_mt l 1 k_X7_rowOf 1 [.inr (.inl x), .inl k] S (fun r S' => r = some (.inl ((((x.toUInt64 >>> ((18 * k).toInt64.toUInt64 &&& Int64.toUInt64 63)).toInt64).toInt32) &&& 262143)) ∧ S' = S) := by
  refine q_meth zoX7_rowOf q_fos (Nat.le_of_ble_eq_true rfl) ?_
  intro AT step
  refine step 20 [] 0 _ _ _ ?_
  simp only [q_vcs, q_vcc, q_vl, q_vu1, q_vu2, q_isc, q_mk, q_msk, zbX7_rowOf, q_pad, q_ent, q_get, q_put, q_nl]
  trace_state
  simp
theorem c_frontOf (l : Launch) (S : qSt) (x : Int64) (k : Int32) : q_Met q_mt l 2 k_X7_frontOf 1 [.inr (.inl x), .inl k] S (fun r S' => True) := by
  refine q_meth zoX7_frontOf q_fos (Nat.le_of_ble_eq_true rfl) ?_
  intro AT step
  refine step 20 [] 0 _ _ _ ?_
  simp only [q_vcs, q_vcc, q_vl, q_vu1, q_vu2, q_isc, q_mk, q_msk, zbX7_frontOf, q_pad, q_ent, q_get, q_put, q_nl, q_w, List.cons_append, List.nil_append]
  trace_state
  refine ⟨by decide, _, _, by decide, c_rowOf l S x k, ?_⟩
  rintro y S' ⟨h1, rfl⟩
  trivial
theorem c_carAtWall (l : Launch) (S : qSt) (x : Int64) (k : Int32) : q_Met q_mt l 2 k_X7_carAtWall 1 [.inr (.inl x), .inl k] S (fun r S' => True) := by
  refine q_meth zoX7_carAtWall q_fos (Nat.le_of_ble_eq_true rfl) ?_
  intro AT step
  refine step 20 [(1, [true, true, true, true, true])] 0 _ _ _ ?_
  simp only [q_vcs, q_vcc, q_vl, q_vu1, q_vu2, q_isc, q_mk, q_msk, zbX7_carAtWall, q_pad, q_ent, q_get, q_put, q_nl, q_w, List.cons_append, List.nil_append, reduceIte]
  trace_state
  sorry
theorem c_roomOf (l : Launch) (S : qSt) (x : Int64) (k : Int32) : q_Met q_mt l 3 k_X9_roomOf 1 [.inr (.inr (3, 0)), .inr (.inl x), .inl k] S (fun r S' => True) := by
  refine q_meth zoX9_roomOf q_fos (Nat.le_of_ble_eq_true rfl) ?_
  intro AT step
  refine step 20 [(1, [true, true, true, true, true, true])] 0 _ _ _ ?_
  simp only [q_vcs, q_vcc, q_vl, q_vu1, q_vu2, q_isc, q_mk, q_msk, zbX9_roomOf, q_pad, q_ent, q_get, q_put, q_nl, q_w, List.cons_append, List.nil_append, reduceIte]
  trace_state
  sorry
theorem c_fewest (l : Launch) (S : qSt) (k : Int32) : q_Met q_mt l 9 k_X11_fewest 1 [.inr (.inr (40, 0)), .inr (.inr (65, 0)), .inl k] S (fun r S' => True) := by
  refine q_meth zoX11_fewest q_fos (Nat.le_of_ble_eq_true rfl) ?_
  intro AT step
  have h5 : ∀ ls st S, AT 5 ls st S := by
    intro ls st S
    sorry
  refine step 40 [(1, [true, true, true, true])] 0 _ _ _ ?_
  simp only [q_vcs, q_vcc, q_vl, q_vu1, q_vu2, q_isc, q_mk, q_msk, zbX11_fewest, q_pad, q_ent, q_get, q_put, q_nl, q_w, List.cons_append, List.nil_append, reduceIte, q_aks, q_als]
  trace_state
  sorry
