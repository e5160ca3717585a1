/-! The law's wrappers: contracts -/
theorem nmC_1 : nmC 1 = sNS := rfl
theorem nmC_2 : nmC 2 = sIA := rfl
def gI : Int32 → Int64 := Int32.toInt64
def gZ : Int32 → Int64 := fun v => if v = 0 then 0 else 1
set_option maxHeartbeats 1000000 in
theorem wL_yard (l : Launch) {S : qSt} {t : Nat} {r : SPR} {x1 : Int32} (hC : CA l k_X10_yard [.inr (.inr (0, 0)), .inl x1] S t nmI r) (hc : ∀ c, r.1 = .inl c → c = 1) : q_WM l 62 qL_yard hL_yard [.inr (.inr (0, 0)), .inl x1, .inr (.inr (80, 0))] S (WP S t r gI) := by
  obtain ⟨d, hd, hC⟩ := hC
  obtain ⟨r1 | v, a9⟩ := r
  · refine q_methW zoL_yard (Nat.le_of_ble_eq_true rfl) ?_
    intro AT step X
    refine step 40 [(1, [true, true, true, true])] 0 _ _ _ ?_
    simp only [q_vcs, q_vcc, q_vl, q_vu, ↓reduceIte, Nat.reduceEqDiff, Bool.false_eq_true, q_isc, q_mk, q_msk, zbL_yard, q_pad, q_ent, q_get, q_put, q_nl, q_w, List.cons_append, List.nil_append, q_aks, q_als, Nat.reduceAdd, Nat.reduceLeDiff, Nat.zero_le, true_and, and_true, Option.some.injEq, Sum.inl.injEq, Sum.inr.injEq, true_or, or_true, and_self, q_sw]
    refine X _ _ _ _ ⟨_, _, _, _, _, _, _, _, _, _, _, d, 1, _, rfl, rfl, Nat.le_of_ble_eq_true rfl, Nat.le_of_ble_eq_true rfl, by omega, hC, fun E S9 h => ?_⟩
    obtain ⟨rfl, hCL, hf⟩ := h
    cases hc r1 rfl
    exact ⟨12, nI 1, q_cat1 (by decide) (by decide) clIA (Or.inl rfl), by decide +kernel, WP_x hCL hf⟩
  · refine q_methW zoL_yard (Nat.le_of_ble_eq_true rfl) ?_
    intro AT step X
    refine step 40 [] 0 _ _ _ ?_
    simp only [q_vcs, q_vcc, q_vl, q_vu, ↓reduceIte, Nat.reduceEqDiff, Bool.false_eq_true, q_isc, q_mk, q_msk, zbL_yard, q_pad, q_ent, q_get, q_put, q_nl, q_w, List.cons_append, List.nil_append, q_aks, q_als, Nat.reduceAdd, Nat.reduceLeDiff, Nat.zero_le, true_and, and_true, Option.some.injEq, Sum.inl.injEq, Sum.inr.injEq, true_or, or_true, and_self, q_sw]
    refine ⟨d, _, by omega, hC, fun x S9 h => ?_⟩
    obtain ⟨hx, ⟨t9, ht, hCL⟩, hf⟩ := h
    cases hx
    exact ⟨vp_in_nI (n := 0) (by decide) (by decide), WP_r (v := v) (g := gI) ht hCL hf⟩
set_option maxHeartbeats 1000000 in
theorem wL_law (l : Launch) {S : qSt} {t : Nat} {r : SPR} {x1 : Int32} (hC : CA l k_X10_law [.inr (.inr (0, 0)), .inl x1] S t nmI r) (hc : ∀ c, r.1 = .inl c → c = 1) : q_WM l 62 qL_law hL_law [.inr (.inr (0, 0)), .inl x1, .inr (.inr (80, 0))] S (WP S t r gI) := by
  obtain ⟨d, hd, hC⟩ := hC
  obtain ⟨r1 | v, a9⟩ := r
  · refine q_methW zoL_law (Nat.le_of_ble_eq_true rfl) ?_
    intro AT step X
    refine step 40 [(1, [true, true, true, true])] 0 _ _ _ ?_
    simp only [q_vcs, q_vcc, q_vl, q_vu, ↓reduceIte, Nat.reduceEqDiff, Bool.false_eq_true, q_isc, q_mk, q_msk, zbL_law, q_pad, q_ent, q_get, q_put, q_nl, q_w, List.cons_append, List.nil_append, q_aks, q_als, Nat.reduceAdd, Nat.reduceLeDiff, Nat.zero_le, true_and, and_true, Option.some.injEq, Sum.inl.injEq, Sum.inr.injEq, true_or, or_true, and_self, q_sw]
    refine X _ _ _ _ ⟨_, _, _, _, _, _, _, _, _, _, _, d, 1, _, rfl, rfl, Nat.le_of_ble_eq_true rfl, Nat.le_of_ble_eq_true rfl, by omega, hC, fun E S9 h => ?_⟩
    obtain ⟨rfl, hCL, hf⟩ := h
    cases hc r1 rfl
    exact ⟨12, nI 1, q_cat1 (by decide) (by decide) clIA (Or.inl rfl), by decide +kernel, WP_x hCL hf⟩
  · refine q_methW zoL_law (Nat.le_of_ble_eq_true rfl) ?_
    intro AT step X
    refine step 40 [] 0 _ _ _ ?_
    simp only [q_vcs, q_vcc, q_vl, q_vu, ↓reduceIte, Nat.reduceEqDiff, Bool.false_eq_true, q_isc, q_mk, q_msk, zbL_law, q_pad, q_ent, q_get, q_put, q_nl, q_w, List.cons_append, List.nil_append, q_aks, q_als, Nat.reduceAdd, Nat.reduceLeDiff, Nat.zero_le, true_and, and_true, Option.some.injEq, Sum.inl.injEq, Sum.inr.injEq, true_or, or_true, and_self, q_sw]
    refine ⟨d, _, by omega, hC, fun x S9 h => ?_⟩
    obtain ⟨hx, ⟨t9, ht, hCL⟩, hf⟩ := h
    cases hx
    exact ⟨vp_in_nI (n := 0) (by decide) (by decide), WP_r (v := v) (g := gI) ht hCL hf⟩
set_option maxHeartbeats 1000000 in
theorem wL_work (l : Launch) {S : qSt} {t : Nat} {r : SPR} {x1 : Int32} (hC : CA l k_X10_work [.inr (.inr (0, 0)), .inl x1] S t nmI r) (hc : ∀ c, r.1 = .inl c → c = 1) : q_WM l 62 qL_work hL_work [.inr (.inr (0, 0)), .inl x1, .inr (.inr (80, 0))] S (WP S t r gI) := by
  obtain ⟨d, hd, hC⟩ := hC
  obtain ⟨r1 | v, a9⟩ := r
  · refine q_methW zoL_work (Nat.le_of_ble_eq_true rfl) ?_
    intro AT step X
    refine step 40 [(1, [true, true, true, true])] 0 _ _ _ ?_
    simp only [q_vcs, q_vcc, q_vl, q_vu, ↓reduceIte, Nat.reduceEqDiff, Bool.false_eq_true, q_isc, q_mk, q_msk, zbL_work, q_pad, q_ent, q_get, q_put, q_nl, q_w, List.cons_append, List.nil_append, q_aks, q_als, Nat.reduceAdd, Nat.reduceLeDiff, Nat.zero_le, true_and, and_true, Option.some.injEq, Sum.inl.injEq, Sum.inr.injEq, true_or, or_true, and_self, q_sw]
    refine X _ _ _ _ ⟨_, _, _, _, _, _, _, _, _, _, _, d, 1, _, rfl, rfl, Nat.le_of_ble_eq_true rfl, Nat.le_of_ble_eq_true rfl, by omega, hC, fun E S9 h => ?_⟩
    obtain ⟨rfl, hCL, hf⟩ := h
    cases hc r1 rfl
    exact ⟨12, nI 1, q_cat1 (by decide) (by decide) clIA (Or.inl rfl), by decide +kernel, WP_x hCL hf⟩
  · refine q_methW zoL_work (Nat.le_of_ble_eq_true rfl) ?_
    intro AT step X
    refine step 40 [] 0 _ _ _ ?_
    simp only [q_vcs, q_vcc, q_vl, q_vu, ↓reduceIte, Nat.reduceEqDiff, Bool.false_eq_true, q_isc, q_mk, q_msk, zbL_work, q_pad, q_ent, q_get, q_put, q_nl, q_w, List.cons_append, List.nil_append, q_aks, q_als, Nat.reduceAdd, Nat.reduceLeDiff, Nat.zero_le, true_and, and_true, Option.some.injEq, Sum.inl.injEq, Sum.inr.injEq, true_or, or_true, and_self, q_sw]
    refine ⟨d, _, by omega, hC, fun x S9 h => ?_⟩
    obtain ⟨hx, ⟨t9, ht, hCL⟩, hf⟩ := h
    cases hx
    exact ⟨vp_in_nI (n := 0) (by decide) (by decide), WP_r (v := v) (g := gI) ht hCL hf⟩
set_option maxHeartbeats 1000000 in
theorem wL_spots (l : Launch) {S : qSt} {t : Nat} {r : SPR} {x1 : Int32} (hC : CA l k_X10_spots [.inr (.inr (0, 0)), .inl x1] S t nmI r) (hc : ∀ c, r.1 = .inl c → c = 1) : q_WM l 62 qL_spots hL_spots [.inr (.inr (0, 0)), .inl x1, .inr (.inr (80, 0))] S (WP S t r gI) := by
  obtain ⟨d, hd, hC⟩ := hC
  obtain ⟨r1 | v, a9⟩ := r
  · refine q_methW zoL_spots (Nat.le_of_ble_eq_true rfl) ?_
    intro AT step X
    refine step 40 [(1, [true, true, true, true])] 0 _ _ _ ?_
    simp only [q_vcs, q_vcc, q_vl, q_vu, ↓reduceIte, Nat.reduceEqDiff, Bool.false_eq_true, q_isc, q_mk, q_msk, zbL_spots, q_pad, q_ent, q_get, q_put, q_nl, q_w, List.cons_append, List.nil_append, q_aks, q_als, Nat.reduceAdd, Nat.reduceLeDiff, Nat.zero_le, true_and, and_true, Option.some.injEq, Sum.inl.injEq, Sum.inr.injEq, true_or, or_true, and_self, q_sw]
    refine X _ _ _ _ ⟨_, _, _, _, _, _, _, _, _, _, _, d, 1, _, rfl, rfl, Nat.le_of_ble_eq_true rfl, Nat.le_of_ble_eq_true rfl, by omega, hC, fun E S9 h => ?_⟩
    obtain ⟨rfl, hCL, hf⟩ := h
    cases hc r1 rfl
    exact ⟨12, nI 1, q_cat1 (by decide) (by decide) clIA (Or.inl rfl), by decide +kernel, WP_x hCL hf⟩
  · refine q_methW zoL_spots (Nat.le_of_ble_eq_true rfl) ?_
    intro AT step X
    refine step 40 [] 0 _ _ _ ?_
    simp only [q_vcs, q_vcc, q_vl, q_vu, ↓reduceIte, Nat.reduceEqDiff, Bool.false_eq_true, q_isc, q_mk, q_msk, zbL_spots, q_pad, q_ent, q_get, q_put, q_nl, q_w, List.cons_append, List.nil_append, q_aks, q_als, Nat.reduceAdd, Nat.reduceLeDiff, Nat.zero_le, true_and, and_true, Option.some.injEq, Sum.inl.injEq, Sum.inr.injEq, true_or, or_true, and_self, q_sw]
    refine ⟨d, _, by omega, hC, fun x S9 h => ?_⟩
    obtain ⟨hx, ⟨t9, ht, hCL⟩, hf⟩ := h
    cases hx
    exact ⟨vp_in_nI (n := 0) (by decide) (by decide), WP_r (v := v) (g := gI) ht hCL hf⟩
set_option maxHeartbeats 1000000 in
theorem wL_told (l : Launch) {S : qSt} {t : Nat} {r : SPR} {x1 : Int32} (hC : CA l k_X10_told [.inr (.inr (0, 0)), .inl x1] S t nmI r) (hc : ∀ c, r.1 = .inl c → c = 1) : q_WM l 62 qL_told hL_told [.inr (.inr (0, 0)), .inl x1, .inr (.inr (80, 0))] S (WP S t r gI) := by
  obtain ⟨d, hd, hC⟩ := hC
  obtain ⟨r1 | v, a9⟩ := r
  · refine q_methW zoL_told (Nat.le_of_ble_eq_true rfl) ?_
    intro AT step X
    refine step 40 [(1, [true, true, true, true])] 0 _ _ _ ?_
    simp only [q_vcs, q_vcc, q_vl, q_vu, ↓reduceIte, Nat.reduceEqDiff, Bool.false_eq_true, q_isc, q_mk, q_msk, zbL_told, q_pad, q_ent, q_get, q_put, q_nl, q_w, List.cons_append, List.nil_append, q_aks, q_als, Nat.reduceAdd, Nat.reduceLeDiff, Nat.zero_le, true_and, and_true, Option.some.injEq, Sum.inl.injEq, Sum.inr.injEq, true_or, or_true, and_self, q_sw]
    refine X _ _ _ _ ⟨_, _, _, _, _, _, _, _, _, _, _, d, 1, _, rfl, rfl, Nat.le_of_ble_eq_true rfl, Nat.le_of_ble_eq_true rfl, by omega, hC, fun E S9 h => ?_⟩
    obtain ⟨rfl, hCL, hf⟩ := h
    cases hc r1 rfl
    exact ⟨12, nI 1, q_cat1 (by decide) (by decide) clIA (Or.inl rfl), by decide +kernel, WP_x hCL hf⟩
  · refine q_methW zoL_told (Nat.le_of_ble_eq_true rfl) ?_
    intro AT step X
    refine step 40 [] 0 _ _ _ ?_
    simp only [q_vcs, q_vcc, q_vl, q_vu, ↓reduceIte, Nat.reduceEqDiff, Bool.false_eq_true, q_isc, q_mk, q_msk, zbL_told, q_pad, q_ent, q_get, q_put, q_nl, q_w, List.cons_append, List.nil_append, q_aks, q_als, Nat.reduceAdd, Nat.reduceLeDiff, Nat.zero_le, true_and, and_true, Option.some.injEq, Sum.inl.injEq, Sum.inr.injEq, true_or, or_true, and_self, q_sw]
    refine ⟨d, _, by omega, hC, fun x S9 h => ?_⟩
    obtain ⟨hx, ⟨t9, ht, hCL⟩, hf⟩ := h
    cases hx
    exact ⟨vp_in_nI (n := 0) (by decide) (by decide), WP_r (v := v) (g := gI) ht hCL hf⟩
set_option maxHeartbeats 1000000 in
theorem wL_lane (l : Launch) {S : qSt} {t : Nat} {r : SPR} {x1 x2 : Int32} (hC : CA l k_X10_lane [.inr (.inr (0, 0)), .inl x1, .inl x2] S t nmC r) (hc : ∀ c, r.1 = .inl c → c = 1 ∨ c = 2) : q_WM l 62 qL_lane hL_lane [.inr (.inr (0, 0)), .inl x1, .inl x2, .inr (.inr (80, 0))] S (WP S t r gI) := by
  obtain ⟨d, hd, hC⟩ := hC
  obtain ⟨r1 | v, a9⟩ := r
  · refine q_methW zoL_lane (Nat.le_of_ble_eq_true rfl) ?_
    intro AT step X
    refine step 40 [(1, [true, true, true, true, true])] 0 _ _ _ ?_
    simp only [q_vcs, q_vcc, q_vl, q_vu, ↓reduceIte, Nat.reduceEqDiff, Bool.false_eq_true, q_isc, q_mk, q_msk, zbL_lane, q_pad, q_ent, q_get, q_put, q_nl, q_w, List.cons_append, List.nil_append, q_aks, q_als, Nat.reduceAdd, Nat.reduceLeDiff, Nat.zero_le, true_and, and_true, Option.some.injEq, Sum.inl.injEq, Sum.inr.injEq, true_or, or_true, and_self, q_sw]
    refine X _ _ _ _ ⟨_, _, _, _, _, _, _, _, _, _, _, d, 1, _, rfl, rfl, Nat.le_of_ble_eq_true rfl, Nat.le_of_ble_eq_true rfl, by omega, hC, fun E S9 h => ?_⟩
    obtain ⟨rfl, hCL, hf⟩ := h
    rcases hc r1 rfl with rfl | rfl
    · exact ⟨13, nI 1, q_cat2 (by decide) (by decide) clNS (Or.inr rfl), by decide +kernel, WP_x hCL hf⟩
    · exact ⟨17, nI 2, q_cat3 (by decide) (by decide) clNS (by decide) clIA, by decide +kernel, WP_x hCL hf⟩
  · refine q_methW zoL_lane (Nat.le_of_ble_eq_true rfl) ?_
    intro AT step X
    refine step 40 [] 0 _ _ _ ?_
    simp only [q_vcs, q_vcc, q_vl, q_vu, ↓reduceIte, Nat.reduceEqDiff, Bool.false_eq_true, q_isc, q_mk, q_msk, zbL_lane, q_pad, q_ent, q_get, q_put, q_nl, q_w, List.cons_append, List.nil_append, q_aks, q_als, Nat.reduceAdd, Nat.reduceLeDiff, Nat.zero_le, true_and, and_true, Option.some.injEq, Sum.inl.injEq, Sum.inr.injEq, true_or, or_true, and_self, q_sw]
    refine ⟨d, _, by omega, hC, fun x S9 h => ?_⟩
    obtain ⟨hx, ⟨t9, ht, hCL⟩, hf⟩ := h
    cases hx
    exact ⟨vp_in_nI (n := 0) (by decide) (by decide), WP_r (v := v) (g := gI) ht hCL hf⟩
set_option maxHeartbeats 1000000 in
theorem wL_car (l : Launch) {S : qSt} {t : Nat} {r : SPR} {x1 x2 : Int32} (hC : CA l k_X10_car [.inr (.inr (0, 0)), .inl x1, .inl x2] S t nmC r) (hc : ∀ c, r.1 = .inl c → c = 1 ∨ c = 2) : q_WM l 62 qL_car hL_car [.inr (.inr (0, 0)), .inl x1, .inl x2, .inr (.inr (80, 0))] S (WP S t r gI) := by
  obtain ⟨d, hd, hC⟩ := hC
  obtain ⟨r1 | v, a9⟩ := r
  · refine q_methW zoL_car (Nat.le_of_ble_eq_true rfl) ?_
    intro AT step X
    refine step 40 [(1, [true, true, true, true, true])] 0 _ _ _ ?_
    simp only [q_vcs, q_vcc, q_vl, q_vu, ↓reduceIte, Nat.reduceEqDiff, Bool.false_eq_true, q_isc, q_mk, q_msk, zbL_car, q_pad, q_ent, q_get, q_put, q_nl, q_w, List.cons_append, List.nil_append, q_aks, q_als, Nat.reduceAdd, Nat.reduceLeDiff, Nat.zero_le, true_and, and_true, Option.some.injEq, Sum.inl.injEq, Sum.inr.injEq, true_or, or_true, and_self, q_sw]
    refine X _ _ _ _ ⟨_, _, _, _, _, _, _, _, _, _, _, d, 1, _, rfl, rfl, Nat.le_of_ble_eq_true rfl, Nat.le_of_ble_eq_true rfl, by omega, hC, fun E S9 h => ?_⟩
    obtain ⟨rfl, hCL, hf⟩ := h
    rcases hc r1 rfl with rfl | rfl
    · exact ⟨13, nI 1, q_cat2 (by decide) (by decide) clNS (Or.inr rfl), by decide +kernel, WP_x hCL hf⟩
    · exact ⟨17, nI 2, q_cat3 (by decide) (by decide) clNS (by decide) clIA, by decide +kernel, WP_x hCL hf⟩
  · refine q_methW zoL_car (Nat.le_of_ble_eq_true rfl) ?_
    intro AT step X
    refine step 40 [] 0 _ _ _ ?_
    simp only [q_vcs, q_vcc, q_vl, q_vu, ↓reduceIte, Nat.reduceEqDiff, Bool.false_eq_true, q_isc, q_mk, q_msk, zbL_car, q_pad, q_ent, q_get, q_put, q_nl, q_w, List.cons_append, List.nil_append, q_aks, q_als, Nat.reduceAdd, Nat.reduceLeDiff, Nat.zero_le, true_and, and_true, Option.some.injEq, Sum.inl.injEq, Sum.inr.injEq, true_or, or_true, and_self, q_sw]
    refine ⟨d, _, by omega, hC, fun x S9 h => ?_⟩
    obtain ⟨hx, ⟨t9, ht, hCL⟩, hf⟩ := h
    cases hx
    exact ⟨vp_in_nI (n := 0) (by decide) (by decide), WP_r (v := v) (g := gI) ht hCL hf⟩
set_option maxHeartbeats 1000000 in
theorem wL_on (l : Launch) {S : qSt} {t : Nat} {r : SPR} {x1 x2 : Int32} (hC : CA l k_X10_on [.inr (.inr (0, 0)), .inl x1, .inl x2] S t nmC r) (hc : ∀ c, r.1 = .inl c → c = 1) : q_WM l 62 qL_on hL_on [.inr (.inr (0, 0)), .inl x1, .inl x2, .inr (.inr (80, 0))] S (WP S t r gI) := by
  obtain ⟨d, hd, hC⟩ := hC
  obtain ⟨r1 | v, a9⟩ := r
  · refine q_methW zoL_on (Nat.le_of_ble_eq_true rfl) ?_
    intro AT step X
    refine step 40 [(1, [true, true, true, true, true])] 0 _ _ _ ?_
    simp only [q_vcs, q_vcc, q_vl, q_vu, ↓reduceIte, Nat.reduceEqDiff, Bool.false_eq_true, q_isc, q_mk, q_msk, zbL_on, q_pad, q_ent, q_get, q_put, q_nl, q_w, List.cons_append, List.nil_append, q_aks, q_als, Nat.reduceAdd, Nat.reduceLeDiff, Nat.zero_le, true_and, and_true, Option.some.injEq, Sum.inl.injEq, Sum.inr.injEq, true_or, or_true, and_self, q_sw]
    refine X _ _ _ _ ⟨_, _, _, _, _, _, _, _, _, _, _, d, 1, _, rfl, rfl, Nat.le_of_ble_eq_true rfl, Nat.le_of_ble_eq_true rfl, by omega, hC, fun E S9 h => ?_⟩
    obtain ⟨rfl, hCL, hf⟩ := h
    cases hc r1 rfl
    exact ⟨13, nI 1, q_cat1 (by decide) (by decide) clNS (Or.inr rfl), by decide +kernel, WP_x hCL hf⟩
  · refine q_methW zoL_on (Nat.le_of_ble_eq_true rfl) ?_
    intro AT step X
    refine step 40 [] 0 _ _ _ ?_
    simp only [q_vcs, q_vcc, q_vl, q_vu, ↓reduceIte, Nat.reduceEqDiff, Bool.false_eq_true, q_isc, q_mk, q_msk, zbL_on, q_pad, q_ent, q_get, q_put, q_nl, q_w, List.cons_append, List.nil_append, q_aks, q_als, Nat.reduceAdd, Nat.reduceLeDiff, Nat.zero_le, true_and, and_true, Option.some.injEq, Sum.inl.injEq, Sum.inr.injEq, true_or, or_true, and_self, q_sw]
    refine ⟨d, _, by omega, hC, fun x S9 h => ?_⟩
    obtain ⟨hx, ⟨t9, ht, hCL⟩, hf⟩ := h
    cases hx
    exact ⟨vp_in_nI (n := 0) (by decide) (by decide), WP_r (v := v) (g := gI) ht hCL hf⟩
set_option maxHeartbeats 1000000 in
theorem wL_seconds (l : Launch) {S : qSt} {t : Nat} {r : SPR} {x1 x2 : Int32} (hC : CA l k_X10_seconds [.inr (.inr (0, 0)), .inl x1, .inl x2] S t nmC r) (hc : ∀ c, r.1 = .inl c → c = 1 ∨ c = 2) : q_WM l 62 qL_seconds hL_seconds [.inr (.inr (0, 0)), .inl x1, .inl x2, .inr (.inr (80, 0))] S (WP S t r gI) := by
  obtain ⟨d, hd, hC⟩ := hC
  obtain ⟨r1 | v, a9⟩ := r
  · refine q_methW zoL_seconds (Nat.le_of_ble_eq_true rfl) ?_
    intro AT step X
    refine step 40 [(1, [true, true, true, true, true])] 0 _ _ _ ?_
    simp only [q_vcs, q_vcc, q_vl, q_vu, ↓reduceIte, Nat.reduceEqDiff, Bool.false_eq_true, q_isc, q_mk, q_msk, zbL_seconds, q_pad, q_ent, q_get, q_put, q_nl, q_w, List.cons_append, List.nil_append, q_aks, q_als, Nat.reduceAdd, Nat.reduceLeDiff, Nat.zero_le, true_and, and_true, Option.some.injEq, Sum.inl.injEq, Sum.inr.injEq, true_or, or_true, and_self, q_sw]
    refine X _ _ _ _ ⟨_, _, _, _, _, _, _, _, _, _, _, d, 1, _, rfl, rfl, Nat.le_of_ble_eq_true rfl, Nat.le_of_ble_eq_true rfl, by omega, hC, fun E S9 h => ?_⟩
    obtain ⟨rfl, hCL, hf⟩ := h
    rcases hc r1 rfl with rfl | rfl
    · exact ⟨13, nI 1, q_cat2 (by decide) (by decide) clNS (Or.inr rfl), by decide +kernel, WP_x hCL hf⟩
    · exact ⟨17, nI 2, q_cat3 (by decide) (by decide) clNS (by decide) clIA, by decide +kernel, WP_x hCL hf⟩
  · refine q_methW zoL_seconds (Nat.le_of_ble_eq_true rfl) ?_
    intro AT step X
    refine step 40 [] 0 _ _ _ ?_
    simp only [q_vcs, q_vcc, q_vl, q_vu, ↓reduceIte, Nat.reduceEqDiff, Bool.false_eq_true, q_isc, q_mk, q_msk, zbL_seconds, q_pad, q_ent, q_get, q_put, q_nl, q_w, List.cons_append, List.nil_append, q_aks, q_als, Nat.reduceAdd, Nat.reduceLeDiff, Nat.zero_le, true_and, and_true, Option.some.injEq, Sum.inl.injEq, Sum.inr.injEq, true_or, or_true, and_self, q_sw]
    refine ⟨d, _, by omega, hC, fun x S9 h => ?_⟩
    obtain ⟨hx, ⟨t9, ht, hCL⟩, hf⟩ := h
    cases hx
    exact ⟨vp_in_nI (n := 0) (by decide) (by decide), WP_r (v := v) (g := gI) ht hCL hf⟩
set_option maxHeartbeats 1000000 in
theorem wL_would (l : Launch) {S : qSt} {t : Nat} {r : SPR} {x1 x2 x3 x4 x5 x6 x7 x8 : Int32} (hC : CA l k_X10_would [.inr (.inr (0, 0)), .inl x1, .inl x2, .inl x3, .inl x4, .inl x5, .inl x6, .inl x7, .inl x8] S t nmI r) (hc : ∀ c, r.1 = .inl c → c = 1) : q_WM l 62 qL_would hL_would [.inr (.inr (0, 0)), .inl x1, .inl x2, .inl x3, .inl x4, .inl x5, .inl x6, .inl x7, .inl x8, .inr (.inr (80, 0))] S (WP S t r gI) := by
  obtain ⟨d, hd, hC⟩ := hC
  obtain ⟨r1 | v, a9⟩ := r
  · refine q_methW zoL_would (Nat.le_of_ble_eq_true rfl) ?_
    intro AT step X
    refine step 40 [(1, [true, true, true, true, true, true, true, true, true, true, true])] 0 _ _ _ ?_
    simp only [q_vcs, q_vcc, q_vl, q_vu, ↓reduceIte, Nat.reduceEqDiff, Bool.false_eq_true, q_isc, q_mk, q_msk, zbL_would, q_pad, q_ent, q_get, q_put, q_nl, q_w, List.cons_append, List.nil_append, q_aks, q_als, Nat.reduceAdd, Nat.reduceLeDiff, Nat.zero_le, true_and, and_true, Option.some.injEq, Sum.inl.injEq, Sum.inr.injEq, true_or, or_true, and_self, q_sw]
    refine X _ _ _ _ ⟨_, _, _, _, _, _, _, _, _, _, _, d, 1, _, rfl, rfl, Nat.le_of_ble_eq_true rfl, Nat.le_of_ble_eq_true rfl, by omega, hC, fun E S9 h => ?_⟩
    obtain ⟨rfl, hCL, hf⟩ := h
    cases hc r1 rfl
    exact ⟨25, nI 1, q_cat1 (by decide) (by decide) clIA (Or.inl rfl), by decide +kernel, WP_x hCL hf⟩
  · refine q_methW zoL_would (Nat.le_of_ble_eq_true rfl) ?_
    intro AT step X
    refine step 40 [] 0 _ _ _ ?_
    simp only [q_vcs, q_vcc, q_vl, q_vu, ↓reduceIte, Nat.reduceEqDiff, Bool.false_eq_true, q_isc, q_mk, q_msk, zbL_would, q_pad, q_ent, q_get, q_put, q_nl, q_w, List.cons_append, List.nil_append, q_aks, q_als, Nat.reduceAdd, Nat.reduceLeDiff, Nat.zero_le, true_and, and_true, Option.some.injEq, Sum.inl.injEq, Sum.inr.injEq, true_or, or_true, and_self, q_sw]
    refine ⟨d, _, by omega, hC, fun x S9 h => ?_⟩
    obtain ⟨hx, ⟨t9, ht, hCL⟩, hf⟩ := h
    cases hx
    exact ⟨vp_in_nI (n := 0) (by decide) (by decide), WP_r (v := v) (g := gI) ht hCL hf⟩
set_option maxHeartbeats 1000000 in
theorem wL_ahead (l : Launch) {S : qSt} {t : Nat} {r : SPR} {x1 : Int32} (hC : CA l k_X10_ahead [.inr (.inr (0, 0)), .inl x1] S t nmC r) (hc : ∀ c, r.1 = .inl c → c = 1) : q_WM l 62 qL_ahead hL_ahead [.inr (.inr (0, 0)), .inl x1, .inr (.inr (80, 0))] S (WP S t r gI) := by
  obtain ⟨d, hd, hC⟩ := hC
  obtain ⟨r1 | v, a9⟩ := r
  · refine q_methW zoL_ahead (Nat.le_of_ble_eq_true rfl) ?_
    intro AT step X
    refine step 40 [(1, [true, true, true, true])] 0 _ _ _ ?_
    simp only [q_vcs, q_vcc, q_vl, q_vu, ↓reduceIte, Nat.reduceEqDiff, Bool.false_eq_true, q_isc, q_mk, q_msk, zbL_ahead, q_pad, q_ent, q_get, q_put, q_nl, q_w, List.cons_append, List.nil_append, q_aks, q_als, Nat.reduceAdd, Nat.reduceLeDiff, Nat.zero_le, true_and, and_true, Option.some.injEq, Sum.inl.injEq, Sum.inr.injEq, true_or, or_true, and_self, q_sw]
    refine X _ _ _ _ ⟨_, _, _, _, _, _, _, _, _, _, _, d, 1, _, rfl, rfl, Nat.le_of_ble_eq_true rfl, Nat.le_of_ble_eq_true rfl, by omega, hC, fun E S9 h => ?_⟩
    obtain ⟨rfl, hCL, hf⟩ := h
    cases hc r1 rfl
    exact ⟨12, nI 1, q_cat1 (by decide) (by decide) clNS (Or.inr rfl), by decide +kernel, WP_x hCL hf⟩
  · refine q_methW zoL_ahead (Nat.le_of_ble_eq_true rfl) ?_
    intro AT step X
    refine step 40 [] 0 _ _ _ ?_
    simp only [q_vcs, q_vcc, q_vl, q_vu, ↓reduceIte, Nat.reduceEqDiff, Bool.false_eq_true, q_isc, q_mk, q_msk, zbL_ahead, q_pad, q_ent, q_get, q_put, q_nl, q_w, List.cons_append, List.nil_append, q_aks, q_als, Nat.reduceAdd, Nat.reduceLeDiff, Nat.zero_le, true_and, and_true, Option.some.injEq, Sum.inl.injEq, Sum.inr.injEq, true_or, or_true, and_self, q_sw]
    refine ⟨d, _, by omega, hC, fun x S9 h => ?_⟩
    obtain ⟨hx, ⟨t9, ht, hCL⟩, hf⟩ := h
    cases hx
    exact ⟨vp_in_nI (n := 0) (by decide) (by decide), WP_r (v := v) (g := gI) ht hCL hf⟩
set_option maxHeartbeats 1000000 in
theorem wL_frees (l : Launch) {S : qSt} {t : Nat} {r : SPR} {x1 x2 : Int32} (hC : CA l k_X10_frees [.inr (.inr (0, 0)), .inl x1, .inl x2] S t nmC r) (hc : ∀ c, r.1 = .inl c → c = 1 ∨ c = 2) : q_WM l 62 qL_frees hL_frees [.inr (.inr (0, 0)), .inl x1, .inl x2, .inr (.inr (80, 0))] S (WP S t r gI) := by
  obtain ⟨d, hd, hC⟩ := hC
  obtain ⟨r1 | v, a9⟩ := r
  · refine q_methW zoL_frees (Nat.le_of_ble_eq_true rfl) ?_
    intro AT step X
    refine step 40 [(1, [true, true, true, true, true])] 0 _ _ _ ?_
    simp only [q_vcs, q_vcc, q_vl, q_vu, ↓reduceIte, Nat.reduceEqDiff, Bool.false_eq_true, q_isc, q_mk, q_msk, zbL_frees, q_pad, q_ent, q_get, q_put, q_nl, q_w, List.cons_append, List.nil_append, q_aks, q_als, Nat.reduceAdd, Nat.reduceLeDiff, Nat.zero_le, true_and, and_true, Option.some.injEq, Sum.inl.injEq, Sum.inr.injEq, true_or, or_true, and_self, q_sw]
    refine X _ _ _ _ ⟨_, _, _, _, _, _, _, _, _, _, _, d, 1, _, rfl, rfl, Nat.le_of_ble_eq_true rfl, Nat.le_of_ble_eq_true rfl, by omega, hC, fun E S9 h => ?_⟩
    obtain ⟨rfl, hCL, hf⟩ := h
    rcases hc r1 rfl with rfl | rfl
    · exact ⟨13, nI 1, q_cat2 (by decide) (by decide) clNS (Or.inr rfl), by decide +kernel, WP_x hCL hf⟩
    · exact ⟨17, nI 2, q_cat3 (by decide) (by decide) clNS (by decide) clIA, by decide +kernel, WP_x hCL hf⟩
  · refine q_methW zoL_frees (Nat.le_of_ble_eq_true rfl) ?_
    intro AT step X
    refine step 40 [] 0 _ _ _ ?_
    simp only [q_vcs, q_vcc, q_vl, q_vu, ↓reduceIte, Nat.reduceEqDiff, Bool.false_eq_true, q_isc, q_mk, q_msk, zbL_frees, q_pad, q_ent, q_get, q_put, q_nl, q_w, List.cons_append, List.nil_append, q_aks, q_als, Nat.reduceAdd, Nat.reduceLeDiff, Nat.zero_le, true_and, and_true, Option.some.injEq, Sum.inl.injEq, Sum.inr.injEq, true_or, or_true, and_self, q_sw]
    refine ⟨d, _, by omega, hC, fun x S9 h => ?_⟩
    obtain ⟨hx, ⟨t9, ht, hCL⟩, hf⟩ := h
    cases hx
    exact ⟨vp_in_nI (n := 0) (by decide) (by decide), WP_r (v := v) (g := gI) ht hCL hf⟩
set_option maxHeartbeats 1000000 in
theorem wL_morning (l : Launch) {S : qSt} {t : Nat} {r : SPR} {x1 : Int32} (hC : CA l k_X10_morning [.inr (.inr (0, 0)), .inl x1] S t nmI r) (hc : ∀ c, r.1 = .inl c → c = 1) : q_WM l 62 qL_morning hL_morning [.inr (.inr (0, 0)), .inl x1, .inr (.inr (80, 0))] S (WP S t r gI) := by
  obtain ⟨d, hd, hC⟩ := hC
  obtain ⟨r1 | v, a9⟩ := r
  · refine q_methW zoL_morning (Nat.le_of_ble_eq_true rfl) ?_
    intro AT step X
    refine step 40 [(1, [true, true, true, true])] 0 _ _ _ ?_
    simp only [q_vcs, q_vcc, q_vl, q_vu, ↓reduceIte, Nat.reduceEqDiff, Bool.false_eq_true, q_isc, q_mk, q_msk, zbL_morning, q_pad, q_ent, q_get, q_put, q_nl, q_w, List.cons_append, List.nil_append, q_aks, q_als, Nat.reduceAdd, Nat.reduceLeDiff, Nat.zero_le, true_and, and_true, Option.some.injEq, Sum.inl.injEq, Sum.inr.injEq, true_or, or_true, and_self, q_sw]
    refine X _ _ _ _ ⟨_, _, _, _, _, _, _, _, _, _, _, d, 1, _, rfl, rfl, Nat.le_of_ble_eq_true rfl, Nat.le_of_ble_eq_true rfl, by omega, hC, fun E S9 h => ?_⟩
    obtain ⟨rfl, hCL, hf⟩ := h
    cases hc r1 rfl
    exact ⟨12, nI 1, q_cat1 (by decide) (by decide) clIA (Or.inl rfl), by decide +kernel, WP_x hCL hf⟩
  · refine q_methW zoL_morning (Nat.le_of_ble_eq_true rfl) ?_
    intro AT step X
    refine step 40 [] 0 _ _ _ ?_
    simp only [q_vcs, q_vcc, q_vl, q_vu, ↓reduceIte, Nat.reduceEqDiff, Bool.false_eq_true, q_isc, q_mk, q_msk, zbL_morning, q_pad, q_ent, q_get, q_put, q_nl, q_w, List.cons_append, List.nil_append, q_aks, q_als, Nat.reduceAdd, Nat.reduceLeDiff, Nat.zero_le, true_and, and_true, Option.some.injEq, Sum.inl.injEq, Sum.inr.injEq, true_or, or_true, and_self, q_sw]
    refine ⟨d, _, by omega, hC, fun x S9 h => ?_⟩
    obtain ⟨hx, ⟨t9, ht, hCL⟩, hf⟩ := h
    cases hx
    exact ⟨vp_in_nI (n := 0) (by decide) (by decide), WP_r (v := v) (g := gI) ht hCL hf⟩
set_option maxHeartbeats 1000000 in
theorem wL_corner (l : Launch) {S : qSt} {t : Nat} {r : SPR} {x1 : Int32} (hC : CA l k_X10_corner [.inr (.inr (0, 0)), .inl x1] S t nmC r) (hc : ∀ c, r.1 = .inl c → c = 1) : q_WM l 62 qL_corner hL_corner [.inr (.inr (0, 0)), .inl x1, .inr (.inr (80, 0))] S (WP S t r gI) := by
  obtain ⟨d, hd, hC⟩ := hC
  obtain ⟨r1 | v, a9⟩ := r
  · refine q_methW zoL_corner (Nat.le_of_ble_eq_true rfl) ?_
    intro AT step X
    refine step 40 [(1, [true, true, true, true])] 0 _ _ _ ?_
    simp only [q_vcs, q_vcc, q_vl, q_vu, ↓reduceIte, Nat.reduceEqDiff, Bool.false_eq_true, q_isc, q_mk, q_msk, zbL_corner, q_pad, q_ent, q_get, q_put, q_nl, q_w, List.cons_append, List.nil_append, q_aks, q_als, Nat.reduceAdd, Nat.reduceLeDiff, Nat.zero_le, true_and, and_true, Option.some.injEq, Sum.inl.injEq, Sum.inr.injEq, true_or, or_true, and_self, q_sw]
    refine X _ _ _ _ ⟨_, _, _, _, _, _, _, _, _, _, _, d, 1, _, rfl, rfl, Nat.le_of_ble_eq_true rfl, Nat.le_of_ble_eq_true rfl, by omega, hC, fun E S9 h => ?_⟩
    obtain ⟨rfl, hCL, hf⟩ := h
    cases hc r1 rfl
    exact ⟨12, nI 1, q_cat1 (by decide) (by decide) clNS (Or.inr rfl), by decide +kernel, WP_x hCL hf⟩
  · refine q_methW zoL_corner (Nat.le_of_ble_eq_true rfl) ?_
    intro AT step X
    refine step 40 [] 0 _ _ _ ?_
    simp only [q_vcs, q_vcc, q_vl, q_vu, ↓reduceIte, Nat.reduceEqDiff, Bool.false_eq_true, q_isc, q_mk, q_msk, zbL_corner, q_pad, q_ent, q_get, q_put, q_nl, q_w, List.cons_append, List.nil_append, q_aks, q_als, Nat.reduceAdd, Nat.reduceLeDiff, Nat.zero_le, true_and, and_true, Option.some.injEq, Sum.inl.injEq, Sum.inr.injEq, true_or, or_true, and_self, q_sw]
    refine ⟨d, _, by omega, hC, fun x S9 h => ?_⟩
    obtain ⟨hx, ⟨t9, ht, hCL⟩, hf⟩ := h
    cases hx
    exact ⟨vp_in_nI (n := 0) (by decide) (by decide), WP_r (v := v) (g := gI) ht hCL hf⟩
set_option maxHeartbeats 1000000 in
theorem wL_goes (l : Launch) {S : qSt} {t : Nat} {r : SPR} {x1 : Int32} (hC : CA l k_X10_goes [.inr (.inr (0, 0)), .inl x1] S t nmC r) (hc : ∀ c, r.1 = .inl c → c = 1) : q_WM l 62 qL_goes hL_goes [.inr (.inr (0, 0)), .inl x1, .inr (.inr (80, 0))] S (WP S t r gZ) := by
  obtain ⟨d, hd, hC⟩ := hC
  obtain ⟨r1 | v, a9⟩ := r
  · refine q_methW zoL_goes (Nat.le_of_ble_eq_true rfl) ?_
    intro AT step X
    refine step 40 [(1, [true, true, true, true])] 0 _ _ _ ?_
    simp only [q_vcs, q_vcc, q_vl, q_vu, ↓reduceIte, Nat.reduceEqDiff, Bool.false_eq_true, q_isc, q_mk, q_msk, zbL_goes, q_pad, q_ent, q_get, q_put, q_nl, q_w, List.cons_append, List.nil_append, q_aks, q_als, Nat.reduceAdd, Nat.reduceLeDiff, Nat.zero_le, true_and, and_true, Option.some.injEq, Sum.inl.injEq, Sum.inr.injEq, true_or, or_true, and_self, q_sw]
    refine X _ _ _ _ ⟨_, _, _, _, _, _, _, _, _, _, _, d, 1, _, rfl, rfl, Nat.le_of_ble_eq_true rfl, Nat.le_of_ble_eq_true rfl, by omega, hC, fun E S9 h => ?_⟩
    obtain ⟨rfl, hCL, hf⟩ := h
    cases hc r1 rfl
    exact ⟨19, nI 1, q_cat1 (by decide) (by decide) clNS (Or.inr rfl), by decide +kernel, WP_x hCL hf⟩
  · refine q_methW zoL_goes (Nat.le_of_ble_eq_true rfl) ?_
    intro AT step X
    refine step 40 [] 0 _ _ _ ?_
    simp only [q_vcs, q_vcc, q_vl, q_vu, ↓reduceIte, Nat.reduceEqDiff, Bool.false_eq_true, q_isc, q_mk, q_msk, zbL_goes, q_pad, q_ent, q_get, q_put, q_nl, q_w, List.cons_append, List.nil_append, q_aks, q_als, Nat.reduceAdd, Nat.reduceLeDiff, Nat.zero_le, true_and, and_true, Option.some.injEq, Sum.inl.injEq, Sum.inr.injEq, true_or, or_true, and_self, q_sw]
    refine ⟨d, _, by omega, hC, fun x S9 h => ?_⟩
    obtain ⟨hx, ⟨t9, ht, hCL⟩, hf⟩ := h
    cases hx
    refine ⟨fun h0 => ?_, fun h0 => ?_⟩
    · have := WP_r (v := v) (g := gZ) ht hCL hf
      rw [show gZ v = 0 from if_pos h0] at this
      exact ⟨vp_in_nI (n := 0) (by decide) (by decide), this⟩
    · have := WP_r (v := v) (g := gZ) ht hCL hf
      rw [show gZ v = 1 from if_neg h0] at this
      exact ⟨vp_in_nI (n := 0) (by decide) (by decide), this⟩
set_option maxHeartbeats 1000000 in
theorem wL_evening (l : Launch) {S : qSt} {t : Nat} {r : SPR} {x1 x2 : Int32} (hC : CA l k_X10_evening [.inr (.inr (0, 0)), .inl x1, .inl x2] S t nmI r) (hc : ∀ c, r.1 = .inl c → c = 1) : q_WM l 62 qL_evening hL_evening [.inr (.inr (0, 0)), .inl x1, .inl x2, .inr (.inr (80, 0))] S (WP S t r gI) := by
  obtain ⟨d, hd, hC⟩ := hC
  obtain ⟨r1 | v, a9⟩ := r
  · refine q_methW zoL_evening (Nat.le_of_ble_eq_true rfl) ?_
    intro AT step X
    refine step 40 [(1, [true, true, true, true, true])] 0 _ _ _ ?_
    simp only [q_vcs, q_vcc, q_vl, q_vu, ↓reduceIte, Nat.reduceEqDiff, Bool.false_eq_true, q_isc, q_mk, q_msk, zbL_evening, q_pad, q_ent, q_get, q_put, q_nl, q_w, List.cons_append, List.nil_append, q_aks, q_als, Nat.reduceAdd, Nat.reduceLeDiff, Nat.zero_le, true_and, and_true, Option.some.injEq, Sum.inl.injEq, Sum.inr.injEq, true_or, or_true, and_self, q_sw]
    refine X _ _ _ _ ⟨_, _, _, _, _, _, _, _, _, _, _, d, 1, _, rfl, rfl, Nat.le_of_ble_eq_true rfl, Nat.le_of_ble_eq_true rfl, by omega, hC, fun E S9 h => ?_⟩
    obtain ⟨rfl, hCL, hf⟩ := h
    cases hc r1 rfl
    exact ⟨13, nI 1, q_cat1 (by decide) (by decide) clIA (Or.inl rfl), by decide +kernel, WP_x hCL hf⟩
  · refine q_methW zoL_evening (Nat.le_of_ble_eq_true rfl) ?_
    intro AT step X
    refine step 40 [] 0 _ _ _ ?_
    simp only [q_vcs, q_vcc, q_vl, q_vu, ↓reduceIte, Nat.reduceEqDiff, Bool.false_eq_true, q_isc, q_mk, q_msk, zbL_evening, q_pad, q_ent, q_get, q_put, q_nl, q_w, List.cons_append, List.nil_append, q_aks, q_als, Nat.reduceAdd, Nat.reduceLeDiff, Nat.zero_le, true_and, and_true, Option.some.injEq, Sum.inl.injEq, Sum.inr.injEq, true_or, or_true, and_self, q_sw]
    refine ⟨d, _, by omega, hC, fun x S9 h => ?_⟩
    obtain ⟨hx, ⟨t9, ht, hCL⟩, hf⟩ := h
    cases hx
    exact ⟨vp_in_nI (n := 0) (by decide) (by decide), WP_r (v := v) (g := gI) ht hCL hf⟩
set_option maxHeartbeats 1000000 in
theorem wL_sure (l : Launch) {S : qSt} {t : Nat} {r : SPR} {x1 x2 x3 : Int32} (hC : CA l k_X10_sure [.inr (.inr (0, 0)), .inl x1, .inl x2, .inl x3] S t nmC r) (hc : ∀ c, r.1 = .inl c → c = 1 ∨ c = 2) : q_WM l 62 qL_sure hL_sure [.inr (.inr (0, 0)), .inl x1, .inl x2, .inl x3, .inr (.inr (80, 0))] S (WP S t r gI) := by
  obtain ⟨d, hd, hC⟩ := hC
  obtain ⟨r1 | v, a9⟩ := r
  · refine q_methW zoL_sure (Nat.le_of_ble_eq_true rfl) ?_
    intro AT step X
    refine step 40 [(1, [true, true, true, true, true, true])] 0 _ _ _ ?_
    simp only [q_vcs, q_vcc, q_vl, q_vu, ↓reduceIte, Nat.reduceEqDiff, Bool.false_eq_true, q_isc, q_mk, q_msk, zbL_sure, q_pad, q_ent, q_get, q_put, q_nl, q_w, List.cons_append, List.nil_append, q_aks, q_als, Nat.reduceAdd, Nat.reduceLeDiff, Nat.zero_le, true_and, and_true, Option.some.injEq, Sum.inl.injEq, Sum.inr.injEq, true_or, or_true, and_self, q_sw]
    refine X _ _ _ _ ⟨_, _, _, _, _, _, _, _, _, _, _, d, 1, _, rfl, rfl, Nat.le_of_ble_eq_true rfl, Nat.le_of_ble_eq_true rfl, by omega, hC, fun E S9 h => ?_⟩
    obtain ⟨rfl, hCL, hf⟩ := h
    rcases hc r1 rfl with rfl | rfl
    · exact ⟨15, nI 1, q_cat2 (by decide) (by decide) clNS (Or.inr rfl), by decide +kernel, WP_x hCL hf⟩
    · exact ⟨19, nI 2, q_cat3 (by decide) (by decide) clNS (by decide) clIA, by decide +kernel, WP_x hCL hf⟩
  · refine q_methW zoL_sure (Nat.le_of_ble_eq_true rfl) ?_
    intro AT step X
    refine step 40 [] 0 _ _ _ ?_
    simp only [q_vcs, q_vcc, q_vl, q_vu, ↓reduceIte, Nat.reduceEqDiff, Bool.false_eq_true, q_isc, q_mk, q_msk, zbL_sure, q_pad, q_ent, q_get, q_put, q_nl, q_w, List.cons_append, List.nil_append, q_aks, q_als, Nat.reduceAdd, Nat.reduceLeDiff, Nat.zero_le, true_and, and_true, Option.some.injEq, Sum.inl.injEq, Sum.inr.injEq, true_or, or_true, and_self, q_sw]
    refine ⟨d, _, by omega, hC, fun x S9 h => ?_⟩
    obtain ⟨hx, ⟨t9, ht, hCL⟩, hf⟩ := h
    cases hx
    exact ⟨vp_in_nI (n := 0) (by decide) (by decide), WP_r (v := v) (g := gI) ht hCL hf⟩
set_option maxHeartbeats 1000000 in
theorem wL_leaks (l : Launch) {S : qSt} {t : Nat} {r : SPR} {x1 : Int32} (hC : CA l k_X10_leaks [.inr (.inr (0, 0)), .inl x1] S t nmI r) (hc : ∀ c, r.1 = .inl c → c = 1) : q_WM l 62 qL_leaks hL_leaks [.inr (.inr (0, 0)), .inl x1, .inr (.inr (80, 0))] S (WP S t r gI) := by
  obtain ⟨d, hd, hC⟩ := hC
  obtain ⟨r1 | v, a9⟩ := r
  · refine q_methW zoL_leaks (Nat.le_of_ble_eq_true rfl) ?_
    intro AT step X
    refine step 40 [(1, [true, true, true, true])] 0 _ _ _ ?_
    simp only [q_vcs, q_vcc, q_vl, q_vu, ↓reduceIte, Nat.reduceEqDiff, Bool.false_eq_true, q_isc, q_mk, q_msk, zbL_leaks, q_pad, q_ent, q_get, q_put, q_nl, q_w, List.cons_append, List.nil_append, q_aks, q_als, Nat.reduceAdd, Nat.reduceLeDiff, Nat.zero_le, true_and, and_true, Option.some.injEq, Sum.inl.injEq, Sum.inr.injEq, true_or, or_true, and_self, q_sw]
    refine X _ _ _ _ ⟨_, _, _, _, _, _, _, _, _, _, _, d, 1, _, rfl, rfl, Nat.le_of_ble_eq_true rfl, Nat.le_of_ble_eq_true rfl, by omega, hC, fun E S9 h => ?_⟩
    obtain ⟨rfl, hCL, hf⟩ := h
    cases hc r1 rfl
    exact ⟨12, nI 1, q_cat1 (by decide) (by decide) clIA (Or.inl rfl), by decide +kernel, WP_x hCL hf⟩
  · refine q_methW zoL_leaks (Nat.le_of_ble_eq_true rfl) ?_
    intro AT step X
    refine step 40 [] 0 _ _ _ ?_
    simp only [q_vcs, q_vcc, q_vl, q_vu, ↓reduceIte, Nat.reduceEqDiff, Bool.false_eq_true, q_isc, q_mk, q_msk, zbL_leaks, q_pad, q_ent, q_get, q_put, q_nl, q_w, List.cons_append, List.nil_append, q_aks, q_als, Nat.reduceAdd, Nat.reduceLeDiff, Nat.zero_le, true_and, and_true, Option.some.injEq, Sum.inl.injEq, Sum.inr.injEq, true_or, or_true, and_self, q_sw]
    refine ⟨d, _, by omega, hC, fun x S9 h => ?_⟩
    obtain ⟨hx, ⟨t9, ht, hCL⟩, hf⟩ := h
    cases hx
    exact ⟨vp_in_nI (n := 0) (by decide) (by decide), WP_r (v := v) (g := gI) ht hCL hf⟩
set_option maxHeartbeats 1000000 in
theorem wL_look (l : Launch) {S : qSt} {t : Nat} {r : SPR} {x1 : Int32} (hC : CA l k_X10_look [.inr (.inr (0, 0)), .inl x1] S t nmI r) (hc : ∀ c, r.1 = .inl c → c = 1) : q_WM l 62 qL_look hL_look [.inr (.inr (0, 0)), .inl x1, .inr (.inr (80, 0))] S (WP S t r gI) := by
  obtain ⟨d, hd, hC⟩ := hC
  obtain ⟨r1 | v, a9⟩ := r
  · refine q_methW zoL_look (Nat.le_of_ble_eq_true rfl) ?_
    intro AT step X
    refine step 40 [(1, [true, true, true, true])] 0 _ _ _ ?_
    simp only [q_vcs, q_vcc, q_vl, q_vu, ↓reduceIte, Nat.reduceEqDiff, Bool.false_eq_true, q_isc, q_mk, q_msk, zbL_look, q_pad, q_ent, q_get, q_put, q_nl, q_w, List.cons_append, List.nil_append, q_aks, q_als, Nat.reduceAdd, Nat.reduceLeDiff, Nat.zero_le, true_and, and_true, Option.some.injEq, Sum.inl.injEq, Sum.inr.injEq, true_or, or_true, and_self, q_sw]
    refine X _ _ _ _ ⟨_, _, _, _, _, _, _, _, _, _, _, d, 1, _, rfl, rfl, Nat.le_of_ble_eq_true rfl, Nat.le_of_ble_eq_true rfl, by omega, hC, fun E S9 h => ?_⟩
    obtain ⟨rfl, hCL, hf⟩ := h
    cases hc r1 rfl
    exact ⟨12, nI 1, q_cat1 (by decide) (by decide) clIA (Or.inl rfl), by decide +kernel, WP_x hCL hf⟩
  · refine q_methW zoL_look (Nat.le_of_ble_eq_true rfl) ?_
    intro AT step X
    refine step 40 [] 0 _ _ _ ?_
    simp only [q_vcs, q_vcc, q_vl, q_vu, ↓reduceIte, Nat.reduceEqDiff, Bool.false_eq_true, q_isc, q_mk, q_msk, zbL_look, q_pad, q_ent, q_get, q_put, q_nl, q_w, List.cons_append, List.nil_append, q_aks, q_als, Nat.reduceAdd, Nat.reduceLeDiff, Nat.zero_le, true_and, and_true, Option.some.injEq, Sum.inl.injEq, Sum.inr.injEq, true_or, or_true, and_self, q_sw]
    refine ⟨d, _, by omega, hC, fun x S9 h => ?_⟩
    obtain ⟨hx, ⟨t9, ht, hCL⟩, hf⟩ := h
    cases hx
    exact ⟨vp_in_nI (n := 0) (by decide) (by decide), WP_r (v := v) (g := gI) ht hCL hf⟩
set_option maxHeartbeats 1000000 in
theorem wL_fronts (l : Launch) {S : qSt} {t : Nat} {r : SPR} {x1 x2 x3 x4 : Int32} (hC : CA l k_X10_fronts [.inr (.inr (0, 0)), .inl x1, .inl x2, .inl x3, .inl x4] S t nmI r) (hc : ∀ c, r.1 = .inl c → c = 1) : q_WM l 62 qL_fronts hL_fronts [.inr (.inr (0, 0)), .inl x1, .inl x2, .inl x3, .inl x4, .inr (.inr (80, 0))] S (WP S t r gI) := by
  obtain ⟨d, hd, hC⟩ := hC
  obtain ⟨r1 | v, a9⟩ := r
  · refine q_methW zoL_fronts (Nat.le_of_ble_eq_true rfl) ?_
    intro AT step X
    refine step 40 [(1, [true, true, true, true, true, true, true])] 0 _ _ _ ?_
    simp only [q_vcs, q_vcc, q_vl, q_vu, ↓reduceIte, Nat.reduceEqDiff, Bool.false_eq_true, q_isc, q_mk, q_msk, zbL_fronts, q_pad, q_ent, q_get, q_put, q_nl, q_w, List.cons_append, List.nil_append, q_aks, q_als, Nat.reduceAdd, Nat.reduceLeDiff, Nat.zero_le, true_and, and_true, Option.some.injEq, Sum.inl.injEq, Sum.inr.injEq, true_or, or_true, and_self, q_sw]
    refine X _ _ _ _ ⟨_, _, _, _, _, _, _, _, _, _, _, d, 1, _, rfl, rfl, Nat.le_of_ble_eq_true rfl, Nat.le_of_ble_eq_true rfl, by omega, hC, fun E S9 h => ?_⟩
    obtain ⟨rfl, hCL, hf⟩ := h
    cases hc r1 rfl
    exact ⟨17, nI 1, q_cat1 (by decide) (by decide) clIA (Or.inl rfl), by decide +kernel, WP_x hCL hf⟩
  · refine q_methW zoL_fronts (Nat.le_of_ble_eq_true rfl) ?_
    intro AT step X
    refine step 40 [] 0 _ _ _ ?_
    simp only [q_vcs, q_vcc, q_vl, q_vu, ↓reduceIte, Nat.reduceEqDiff, Bool.false_eq_true, q_isc, q_mk, q_msk, zbL_fronts, q_pad, q_ent, q_get, q_put, q_nl, q_w, List.cons_append, List.nil_append, q_aks, q_als, Nat.reduceAdd, Nat.reduceLeDiff, Nat.zero_le, true_and, and_true, Option.some.injEq, Sum.inl.injEq, Sum.inr.injEq, true_or, or_true, and_self, q_sw]
    refine ⟨d, _, by omega, hC, fun x S9 h => ?_⟩
    obtain ⟨hx, ⟨t9, ht, hCL⟩, hf⟩ := h
    cases hx
    exact ⟨vp_in_nI (n := 0) (by decide) (by decide), WP_r (v := v) (g := gI) ht hCL hf⟩
set_option maxHeartbeats 1000000 in
theorem wL_pays (l : Launch) {S : qSt} {t : Nat} {r : SPR} {x1 x2 x3 : Int32} (hC : CA l k_X10_pays [.inr (.inr (0, 0)), .inl x1, .inl x2, .inl x3] S t nmC r) (hc : ∀ c, r.1 = .inl c → c = 1 ∨ c = 2) : q_WM l 62 qL_pays hL_pays [.inr (.inr (0, 0)), .inl x1, .inl x2, .inl x3, .inr (.inr (80, 0))] S (WP S t r gI) := by
  obtain ⟨d, hd, hC⟩ := hC
  obtain ⟨r1 | v, a9⟩ := r
  · refine q_methW zoL_pays (Nat.le_of_ble_eq_true rfl) ?_
    intro AT step X
    refine step 40 [(1, [true, true, true, true, true, true])] 0 _ _ _ ?_
    simp only [q_vcs, q_vcc, q_vl, q_vu, ↓reduceIte, Nat.reduceEqDiff, Bool.false_eq_true, q_isc, q_mk, q_msk, zbL_pays, q_pad, q_ent, q_get, q_put, q_nl, q_w, List.cons_append, List.nil_append, q_aks, q_als, Nat.reduceAdd, Nat.reduceLeDiff, Nat.zero_le, true_and, and_true, Option.some.injEq, Sum.inl.injEq, Sum.inr.injEq, true_or, or_true, and_self, q_sw]
    refine X _ _ _ _ ⟨_, _, _, _, _, _, _, _, _, _, _, d, 1, _, rfl, rfl, Nat.le_of_ble_eq_true rfl, Nat.le_of_ble_eq_true rfl, by omega, hC, fun E S9 h => ?_⟩
    obtain ⟨rfl, hCL, hf⟩ := h
    rcases hc r1 rfl with rfl | rfl
    · exact ⟨15, nI 1, q_cat2 (by decide) (by decide) clNS (Or.inr rfl), by decide +kernel, WP_x hCL hf⟩
    · exact ⟨19, nI 2, q_cat3 (by decide) (by decide) clNS (by decide) clIA, by decide +kernel, WP_x hCL hf⟩
  · refine q_methW zoL_pays (Nat.le_of_ble_eq_true rfl) ?_
    intro AT step X
    refine step 40 [] 0 _ _ _ ?_
    simp only [q_vcs, q_vcc, q_vl, q_vu, ↓reduceIte, Nat.reduceEqDiff, Bool.false_eq_true, q_isc, q_mk, q_msk, zbL_pays, q_pad, q_ent, q_get, q_put, q_nl, q_w, List.cons_append, List.nil_append, q_aks, q_als, Nat.reduceAdd, Nat.reduceLeDiff, Nat.zero_le, true_and, and_true, Option.some.injEq, Sum.inl.injEq, Sum.inr.injEq, true_or, or_true, and_self, q_sw]
    refine ⟨d, _, by omega, hC, fun x S9 h => ?_⟩
    obtain ⟨hx, ⟨t9, ht, hCL⟩, hf⟩ := h
    cases hx
    exact ⟨vp_in_nI (n := 0) (by decide) (by decide), WP_r (v := v) (g := gI) ht hCL hf⟩
set_option maxHeartbeats 1000000 in
theorem wL_spare (l : Launch) {S : qSt} {t : Nat} {r : SPR} {x1 : Int32} (hC : CA l k_X10_spare [.inr (.inr (0, 0)), .inl x1] S t nmI r) (hc : ∀ c, r.1 = .inl c → c = 1) : q_WM l 62 qL_spare hL_spare [.inr (.inr (0, 0)), .inl x1, .inr (.inr (80, 0))] S (WP S t r gI) := by
  obtain ⟨d, hd, hC⟩ := hC
  obtain ⟨r1 | v, a9⟩ := r
  · refine q_methW zoL_spare (Nat.le_of_ble_eq_true rfl) ?_
    intro AT step X
    refine step 40 [(1, [true, true, true, true])] 0 _ _ _ ?_
    simp only [q_vcs, q_vcc, q_vl, q_vu, ↓reduceIte, Nat.reduceEqDiff, Bool.false_eq_true, q_isc, q_mk, q_msk, zbL_spare, q_pad, q_ent, q_get, q_put, q_nl, q_w, List.cons_append, List.nil_append, q_aks, q_als, Nat.reduceAdd, Nat.reduceLeDiff, Nat.zero_le, true_and, and_true, Option.some.injEq, Sum.inl.injEq, Sum.inr.injEq, true_or, or_true, and_self, q_sw]
    refine X _ _ _ _ ⟨_, _, _, _, _, _, _, _, _, _, _, d, 1, _, rfl, rfl, Nat.le_of_ble_eq_true rfl, Nat.le_of_ble_eq_true rfl, by omega, hC, fun E S9 h => ?_⟩
    obtain ⟨rfl, hCL, hf⟩ := h
    cases hc r1 rfl
    exact ⟨12, nI 1, q_cat1 (by decide) (by decide) clIA (Or.inl rfl), by decide +kernel, WP_x hCL hf⟩
  · refine q_methW zoL_spare (Nat.le_of_ble_eq_true rfl) ?_
    intro AT step X
    refine step 40 [] 0 _ _ _ ?_
    simp only [q_vcs, q_vcc, q_vl, q_vu, ↓reduceIte, Nat.reduceEqDiff, Bool.false_eq_true, q_isc, q_mk, q_msk, zbL_spare, q_pad, q_ent, q_get, q_put, q_nl, q_w, List.cons_append, List.nil_append, q_aks, q_als, Nat.reduceAdd, Nat.reduceLeDiff, Nat.zero_le, true_and, and_true, Option.some.injEq, Sum.inl.injEq, Sum.inr.injEq, true_or, or_true, and_self, q_sw]
    refine ⟨d, _, by omega, hC, fun x S9 h => ?_⟩
    obtain ⟨hx, ⟨t9, ht, hCL⟩, hf⟩ := h
    cases hx
    exact ⟨vp_in_nI (n := 0) (by decide) (by decide), WP_r (v := v) (g := gI) ht hCL hf⟩
set_option maxHeartbeats 1000000 in
theorem wL_next (l : Launch) {S : qSt} {t : Nat} {r : SPR} {x1 : Int32} (hC : CA l k_X10_next [.inr (.inr (0, 0)), .inl x1] S t nmI r) (hc : ∀ c, r.1 = .inl c → c = 1) : q_WM l 62 qL_next hL_next [.inr (.inr (0, 0)), .inl x1, .inr (.inr (80, 0))] S (WP S t r gI) := by
  obtain ⟨d, hd, hC⟩ := hC
  obtain ⟨r1 | v, a9⟩ := r
  · refine q_methW zoL_next (Nat.le_of_ble_eq_true rfl) ?_
    intro AT step X
    refine step 40 [(1, [true, true, true, true])] 0 _ _ _ ?_
    simp only [q_vcs, q_vcc, q_vl, q_vu, ↓reduceIte, Nat.reduceEqDiff, Bool.false_eq_true, q_isc, q_mk, q_msk, zbL_next, q_pad, q_ent, q_get, q_put, q_nl, q_w, List.cons_append, List.nil_append, q_aks, q_als, Nat.reduceAdd, Nat.reduceLeDiff, Nat.zero_le, true_and, and_true, Option.some.injEq, Sum.inl.injEq, Sum.inr.injEq, true_or, or_true, and_self, q_sw]
    refine X _ _ _ _ ⟨_, _, _, _, _, _, _, _, _, _, _, d, 1, _, rfl, rfl, Nat.le_of_ble_eq_true rfl, Nat.le_of_ble_eq_true rfl, by omega, hC, fun E S9 h => ?_⟩
    obtain ⟨rfl, hCL, hf⟩ := h
    cases hc r1 rfl
    exact ⟨12, nI 1, q_cat1 (by decide) (by decide) clIA (Or.inl rfl), by decide +kernel, WP_x hCL hf⟩
  · refine q_methW zoL_next (Nat.le_of_ble_eq_true rfl) ?_
    intro AT step X
    refine step 40 [] 0 _ _ _ ?_
    simp only [q_vcs, q_vcc, q_vl, q_vu, ↓reduceIte, Nat.reduceEqDiff, Bool.false_eq_true, q_isc, q_mk, q_msk, zbL_next, q_pad, q_ent, q_get, q_put, q_nl, q_w, List.cons_append, List.nil_append, q_aks, q_als, Nat.reduceAdd, Nat.reduceLeDiff, Nat.zero_le, true_and, and_true, Option.some.injEq, Sum.inl.injEq, Sum.inr.injEq, true_or, or_true, and_self, q_sw]
    refine ⟨d, _, by omega, hC, fun x S9 h => ?_⟩
    obtain ⟨hx, ⟨t9, ht, hCL⟩, hf⟩ := h
    cases hx
    exact ⟨vp_in_nI (n := 0) (by decide) (by decide), WP_r (v := v) (g := gI) ht hCL hf⟩
set_option maxHeartbeats 1000000 in
theorem wL_most (l : Launch) {S : qSt} {t : Nat} {r : SPR} {x1 : Int32} (hC : CA l k_X10_most [.inr (.inr (0, 0)), .inl x1] S t nmI r) (hc : ∀ c, r.1 = .inl c → c = 1) : q_WM l 62 qL_most hL_most [.inr (.inr (0, 0)), .inl x1, .inr (.inr (80, 0))] S (WP S t r gI) := by
  obtain ⟨d, hd, hC⟩ := hC
  obtain ⟨r1 | v, a9⟩ := r
  · refine q_methW zoL_most (Nat.le_of_ble_eq_true rfl) ?_
    intro AT step X
    refine step 40 [(1, [true, true, true, true])] 0 _ _ _ ?_
    simp only [q_vcs, q_vcc, q_vl, q_vu, ↓reduceIte, Nat.reduceEqDiff, Bool.false_eq_true, q_isc, q_mk, q_msk, zbL_most, q_pad, q_ent, q_get, q_put, q_nl, q_w, List.cons_append, List.nil_append, q_aks, q_als, Nat.reduceAdd, Nat.reduceLeDiff, Nat.zero_le, true_and, and_true, Option.some.injEq, Sum.inl.injEq, Sum.inr.injEq, true_or, or_true, and_self, q_sw]
    refine X _ _ _ _ ⟨_, _, _, _, _, _, _, _, _, _, _, d, 1, _, rfl, rfl, Nat.le_of_ble_eq_true rfl, Nat.le_of_ble_eq_true rfl, by omega, hC, fun E S9 h => ?_⟩
    obtain ⟨rfl, hCL, hf⟩ := h
    cases hc r1 rfl
    exact ⟨12, nI 1, q_cat1 (by decide) (by decide) clIA (Or.inl rfl), by decide +kernel, WP_x hCL hf⟩
  · refine q_methW zoL_most (Nat.le_of_ble_eq_true rfl) ?_
    intro AT step X
    refine step 40 [] 0 _ _ _ ?_
    simp only [q_vcs, q_vcc, q_vl, q_vu, ↓reduceIte, Nat.reduceEqDiff, Bool.false_eq_true, q_isc, q_mk, q_msk, zbL_most, q_pad, q_ent, q_get, q_put, q_nl, q_w, List.cons_append, List.nil_append, q_aks, q_als, Nat.reduceAdd, Nat.reduceLeDiff, Nat.zero_le, true_and, and_true, Option.some.injEq, Sum.inl.injEq, Sum.inr.injEq, true_or, or_true, and_self, q_sw]
    refine ⟨d, _, by omega, hC, fun x S9 h => ?_⟩
    obtain ⟨hx, ⟨t9, ht, hCL⟩, hf⟩ := h
    cases hx
    exact ⟨vp_in_nI (n := 0) (by decide) (by decide), WP_r (v := v) (g := gI) ht hCL hf⟩
set_option maxHeartbeats 1000000 in
theorem wL_days (l : Launch) {S : qSt} {t : Nat} {r : SPR} {x1 x2 x3 x4 : Int32} (hC : CA l k_X10_days [.inr (.inr (0, 0)), .inl x1, .inl x2, .inl x3, .inl x4] S t nmI r) (hc : ∀ c, r.1 = .inl c → c = 1) : q_WM l 62 qL_days hL_days [.inr (.inr (0, 0)), .inl x1, .inl x2, .inl x3, .inl x4, .inr (.inr (80, 0))] S (WP S t r gI) := by
  obtain ⟨d, hd, hC⟩ := hC
  obtain ⟨r1 | v, a9⟩ := r
  · refine q_methW zoL_days (Nat.le_of_ble_eq_true rfl) ?_
    intro AT step X
    refine step 40 [(1, [true, true, true, true, true, true, true])] 0 _ _ _ ?_
    simp only [q_vcs, q_vcc, q_vl, q_vu, ↓reduceIte, Nat.reduceEqDiff, Bool.false_eq_true, q_isc, q_mk, q_msk, zbL_days, q_pad, q_ent, q_get, q_put, q_nl, q_w, List.cons_append, List.nil_append, q_aks, q_als, Nat.reduceAdd, Nat.reduceLeDiff, Nat.zero_le, true_and, and_true, Option.some.injEq, Sum.inl.injEq, Sum.inr.injEq, true_or, or_true, and_self, q_sw]
    refine X _ _ _ _ ⟨_, _, _, _, _, _, _, _, _, _, _, d, 1, _, rfl, rfl, Nat.le_of_ble_eq_true rfl, Nat.le_of_ble_eq_true rfl, by omega, hC, fun E S9 h => ?_⟩
    obtain ⟨rfl, hCL, hf⟩ := h
    cases hc r1 rfl
    exact ⟨17, nI 1, q_cat1 (by decide) (by decide) clIA (Or.inl rfl), by decide +kernel, WP_x hCL hf⟩
  · refine q_methW zoL_days (Nat.le_of_ble_eq_true rfl) ?_
    intro AT step X
    refine step 40 [] 0 _ _ _ ?_
    simp only [q_vcs, q_vcc, q_vl, q_vu, ↓reduceIte, Nat.reduceEqDiff, Bool.false_eq_true, q_isc, q_mk, q_msk, zbL_days, q_pad, q_ent, q_get, q_put, q_nl, q_w, List.cons_append, List.nil_append, q_aks, q_als, Nat.reduceAdd, Nat.reduceLeDiff, Nat.zero_le, true_and, and_true, Option.some.injEq, Sum.inl.injEq, Sum.inr.injEq, true_or, or_true, and_self, q_sw]
    refine ⟨d, _, by omega, hC, fun x S9 h => ?_⟩
    obtain ⟨hx, ⟨t9, ht, hCL⟩, hf⟩ := h
    cases hx
    exact ⟨vp_in_nI (n := 0) (by decide) (by decide), WP_r (v := v) (g := gI) ht hCL hf⟩
set_option maxHeartbeats 1000000 in
theorem wL_span (l : Launch) {S : qSt} {t : Nat} {r : SPR} {x1 x2 x3 x4 x5 x6 : Int32} (hC : CA l k_X10_span [.inr (.inr (0, 0)), .inl x1, .inl x2, .inl x3, .inl x4, .inl x5, .inl x6] S t nmI r) (hc : ∀ c, r.1 = .inl c → c = 1) : q_WM l 62 qL_span hL_span [.inr (.inr (0, 0)), .inl x1, .inl x2, .inl x3, .inl x4, .inl x5, .inl x6, .inr (.inr (80, 0))] S (WP S t r gI) := by
  obtain ⟨d, hd, hC⟩ := hC
  obtain ⟨r1 | v, a9⟩ := r
  · refine q_methW zoL_span (Nat.le_of_ble_eq_true rfl) ?_
    intro AT step X
    refine step 40 [(1, [true, true, true, true, true, true, true, true, true])] 0 _ _ _ ?_
    simp only [q_vcs, q_vcc, q_vl, q_vu, ↓reduceIte, Nat.reduceEqDiff, Bool.false_eq_true, q_isc, q_mk, q_msk, zbL_span, q_pad, q_ent, q_get, q_put, q_nl, q_w, List.cons_append, List.nil_append, q_aks, q_als, Nat.reduceAdd, Nat.reduceLeDiff, Nat.zero_le, true_and, and_true, Option.some.injEq, Sum.inl.injEq, Sum.inr.injEq, true_or, or_true, and_self, q_sw]
    refine X _ _ _ _ ⟨_, _, _, _, _, _, _, _, _, _, _, d, 1, _, rfl, rfl, Nat.le_of_ble_eq_true rfl, Nat.le_of_ble_eq_true rfl, by omega, hC, fun E S9 h => ?_⟩
    obtain ⟨rfl, hCL, hf⟩ := h
    cases hc r1 rfl
    exact ⟨21, nI 1, q_cat1 (by decide) (by decide) clIA (Or.inl rfl), by decide +kernel, WP_x hCL hf⟩
  · refine q_methW zoL_span (Nat.le_of_ble_eq_true rfl) ?_
    intro AT step X
    refine step 40 [] 0 _ _ _ ?_
    simp only [q_vcs, q_vcc, q_vl, q_vu, ↓reduceIte, Nat.reduceEqDiff, Bool.false_eq_true, q_isc, q_mk, q_msk, zbL_span, q_pad, q_ent, q_get, q_put, q_nl, q_w, List.cons_append, List.nil_append, q_aks, q_als, Nat.reduceAdd, Nat.reduceLeDiff, Nat.zero_le, true_and, and_true, Option.some.injEq, Sum.inl.injEq, Sum.inr.injEq, true_or, or_true, and_self, q_sw]
    refine ⟨d, _, by omega, hC, fun x S9 h => ?_⟩
    obtain ⟨hx, ⟨t9, ht, hCL⟩, hf⟩ := h
    cases hx
    exact ⟨vp_in_nI (n := 0) (by decide) (by decide), WP_r (v := v) (g := gI) ht hCL hf⟩
