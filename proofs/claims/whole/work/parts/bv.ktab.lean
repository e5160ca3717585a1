/-! The constructors' machine: its tables are the program's -/
theorem k_kfa {ci : Nat} {T : u_T} {ty : Nat → FieldType} (h : (List.range (k_fd ci).length).all (fun j => k_kf (ty j) (T j).2.2.2 ((k_fd ci).getD j 9)) = true) : ∀ j q, (k_fd ci)[j]? = some q → k_kf (ty j) (T j).2.2.2 q = true := by
  intro j q hq
  have hj := (List.getElem?_eq_some_iff.mp hq).1
  have := List.all_eq_true.mp h j (List.mem_range.mpr hj)
  rw [List.getD_eq_getElem?_getD, hq] at this
  exact this
theorem k_co0 : k_co 0 := ⟨RX0, TX0, 4, tyX0, rfl, rfl, q_cw0, tyX0_ok, nmX0, by decide +kernel, q_TB_in (q_mt2 (List.mem_of_getElem? (i := 51) rfl)) rfl, q_TB_in (q_mt1 (List.mem_of_getElem? (i := 10) rfl)) rfl, k_kfa (by decide +kernel)⟩
theorem k_co1 : k_co 1 := ⟨RX1, TX1, 4, tyX1, rfl, rfl, q_cw1, tyX1_ok, nmX1, by decide +kernel, q_TB_in (q_mt1 (List.mem_of_getElem? (i := 123) rfl)) rfl, q_TB_in (q_mt1 (List.mem_of_getElem? (i := 4) rfl)) rfl, k_kfa (by decide +kernel)⟩
theorem k_co2 : k_co 2 := ⟨RX2, TX2, 2, tyX2, rfl, rfl, q_cw2, tyX2_ok, nmX2, by decide +kernel, q_TB_in (q_mt1 (List.mem_of_getElem? (i := 206) rfl)) rfl, q_TB_in (q_mt1 (List.mem_of_getElem? (i := 7) rfl)) rfl, k_kfa (by decide +kernel)⟩
theorem k_co3 : k_co 3 := ⟨RX3, TX3, 3, tyX3, rfl, rfl, q_cw3, tyX3_ok, nmX3, by decide +kernel, q_TB_in (q_mt1 (List.mem_of_getElem? (i := 213) rfl)) rfl, q_TB_in (q_mt1 (List.mem_of_getElem? (i := 8) rfl)) rfl, k_kfa (by decide +kernel)⟩
theorem k_co4 : k_co 4 := ⟨RX4, TX4, 7, tyX4, rfl, rfl, q_cw4, tyX4_ok, nmX4, by decide +kernel, q_TB_in (q_mt1 (List.mem_of_getElem? (i := 35) rfl)) rfl, q_TB_in (q_mt1 (List.mem_of_getElem? (i := 2) rfl)) rfl, k_kfa (by decide +kernel)⟩
theorem k_co5 : k_co 5 := ⟨RX5, TX5, 12, tyX5, rfl, rfl, q_cw5, tyX5_ok, nmX5, by decide +kernel, q_TB_in (q_mt2 (List.mem_of_getElem? (i := 3) rfl)) rfl, q_TB_in (q_mt1 (List.mem_of_getElem? (i := 9) rfl)) rfl, k_kfa (by decide +kernel)⟩
theorem k_co6 : k_co 6 := ⟨RX6, TX6, 5, tyX6, rfl, rfl, q_cw6, tyX6_ok, nmX6, by decide +kernel, q_TB_in (q_mt1 (List.mem_of_getElem? (i := 150) rfl)) rfl, q_TB_in (q_mt1 (List.mem_of_getElem? (i := 5) rfl)) rfl, k_kfa (by decide +kernel)⟩
theorem k_co7 : k_co 7 := ⟨RX8, TX8, 8, tyX8, rfl, rfl, q_cw8, tyX8_ok, nmX8, by decide +kernel, q_TB_in (q_mt1 (List.mem_of_getElem? (i := 173) rfl)) rfl, q_TB_in (q_mt1 (List.mem_of_getElem? (i := 6) rfl)) rfl, k_kfa (by decide +kernel)⟩
theorem k_co8 : k_co 8 := ⟨RX9, TX9, 11, tyX9, rfl, rfl, q_cw9, tyX9_ok, nmX9, by decide +kernel, q_TB_in (q_mt1 (List.mem_of_getElem? (i := 72) rfl)) rfl, q_TB_in (q_mt1 (List.mem_of_getElem? (i := 3) rfl)) rfl, k_kfa (by decide +kernel)⟩
theorem k_co9 : k_co 9 := ⟨RX10, TX10, 16, tyX10, rfl, rfl, q_cw10, tyX10_ok, nmX10, by decide +kernel, q_TB_in (q_mt1 (List.mem_of_getElem? (i := 27) rfl)) rfl, q_TB_in (q_mt1 (List.mem_of_getElem? (i := 1) rfl)) rfl, k_kfa (by decide +kernel)⟩
theorem k_co10 : k_co 10 := ⟨RX11, TX11, 53, tyX11, rfl, rfl, q_cw11, tyX11_ok, nmX11, by decide +kernel, q_TB_in (q_mt6 (List.mem_of_getElem? (i := 79) rfl)) rfl, q_TB_in (q_mt1 (List.mem_of_getElem? (i := 11) rfl)) rfl, k_kfa (by decide +kernel)⟩
theorem k_cos : ∀ ci, ci < 11 → k_co ci
  | 0, _ => k_co0
  | 1, _ => k_co1
  | 2, _ => k_co2
  | 3, _ => k_co3
  | 4, _ => k_co4
  | 5, _ => k_co5
  | 6, _ => k_co6
  | 7, _ => k_co7
  | 8, _ => k_co8
  | 9, _ => k_co9
  | 10, _ => k_co10
  | n + 11, h => absurd h (by omega)
theorem k_aws : k_aw := ⟨q_TB_in (q_mt1 (List.mem_of_getElem? (i := 121) rfl)) rfl, q_TB_in (q_mt1 (List.mem_of_getElem? (i := 70) rfl)) rfl, q_TB_in (q_mt2 (List.mem_of_getElem? (i := 49) rfl)) rfl, q_TB_in (q_mt1 (List.mem_of_getElem? (i := 32) rfl)) rfl, q_TB_in (q_mt1 (List.mem_of_getElem? (i := 33) rfl)) rfl⟩
def klRX10 : List (Nat × Nat × Nat × Nat) := [(0, 11, 9, 0), (1, 10, 0, 0), (7, 7, 4, 0), (9, 23, 187, 0), (10, 0, 9, 0), (16, 7, 8, 0), (18, 23, 247, 0), (19, 0, 9, 1), (23, 0, 9, 2), (26, 7, 1, 0), (28, 22, 160, 0), (29, 0, 9, 3), (33, 0, 9, 4), (36, 7, 6, 0), (38, 23, 211, 0), (39, 0, 9, 5), (43, 0, 9, 6), (46, 7, 7, 0), (48, 23, 233, 0), (49, 0, 9, 7), (53, 7, 2, 0), (53, 8, 4, 0), (55, 22, 176, 0), (56, 0, 9, 8), (60, 0, 9, 9), (64, 7, 5, 0), (66, 23, 202, 0), (67, 0, 9, 10), (71, 7, 0, 0), (73, 23, 155, 0), (74, 0, 9, 11)]
theorem kqRX10_0 : k_pok "BlockedCars" (0, 11, 9, 0) := fun C T N h => by
    have h : some (RX10, TX10, 16) = some (C, T, N) := h
    cases h
    rfl
theorem kqRX10_1 : k_pok "BlockedCars" (1, 10, 0, 0) := q_TB_in (q_mt1 (List.mem_of_getElem? (i := 31) rfl)) rfl
theorem kqRX10_2 : k_pok "BlockedCars" (7, 7, 4, 0) := fun C T N h => by
    have h : some (RX4, TX4, 7) = some (C, T, N) := h
    cases h
    exact q_TB_in (q_mt1 (List.mem_of_getElem? (i := 34) rfl)) rfl
theorem kqRX10_3 : k_pok "BlockedCars" (9, 23, 187, 0) := ⟨(yX4_init, cX4_init, 1, none), rfl, List.mem_of_getElem? (i := 0) rfl, q_TB_in (q_mt1 (List.mem_of_getElem? (i := 37) rfl)) rfl, q_TB_in (q_mt1 (List.mem_of_getElem? (i := 2) rfl)) rfl, q_TB_in (q_mt1 (List.mem_of_getElem? (i := 38) rfl)) rfl, rfl, rfl, ⟨by decide, by decide, by decide +kernel⟩, by decide⟩
theorem kqRX10_4 : k_pok "BlockedCars" (10, 0, 9, 0) := fun C T N h => by
    have h : some (RX10, TX10, 16) = some (C, T, N) := h
    cases h
    exact q_TB_in (q_mt2 (List.mem_of_getElem? (i := 72) rfl)) rfl
theorem kqRX10_5 : k_pok "BlockedCars" (16, 7, 8, 0) := fun C T N h => by
    have h : some (RX9, TX9, 11) = some (C, T, N) := h
    cases h
    exact q_TB_in (q_mt1 (List.mem_of_getElem? (i := 71) rfl)) rfl
theorem kqRX10_6 : k_pok "BlockedCars" (18, 23, 247, 0) := ⟨(yX9_init, cX9_init, 1, none), rfl, List.mem_of_getElem? (i := 1) rfl, q_TB_in (q_mt1 (List.mem_of_getElem? (i := 74) rfl)) rfl, q_TB_in (q_mt1 (List.mem_of_getElem? (i := 3) rfl)) rfl, q_TB_in (q_mt1 (List.mem_of_getElem? (i := 75) rfl)) rfl, rfl, rfl, ⟨by decide, by decide, by decide +kernel⟩, by decide⟩
theorem kqRX10_7 : k_pok "BlockedCars" (19, 0, 9, 1) := fun C T N h => by
    have h : some (RX10, TX10, 16) = some (C, T, N) := h
    cases h
    exact q_TB_in (q_mt2 (List.mem_of_getElem? (i := 73) rfl)) rfl
theorem kqRX10_8 : k_pok "BlockedCars" (23, 0, 9, 2) := fun C T N h => by
    have h : some (RX10, TX10, 16) = some (C, T, N) := h
    cases h
    exact q_TB_in (q_mt2 (List.mem_of_getElem? (i := 74) rfl)) rfl
theorem kqRX10_9 : k_pok "BlockedCars" (26, 7, 1, 0) := fun C T N h => by
    have h : some (RX1, TX1, 4) = some (C, T, N) := h
    cases h
    exact q_TB_in (q_mt1 (List.mem_of_getElem? (i := 122) rfl)) rfl
theorem kqRX10_10 : k_pok "BlockedCars" (28, 22, 160, 0) := ⟨(yX1_init, cX1_init, 1, none), rfl, q_TB_in (q_mt1 (List.mem_of_getElem? (i := 124) rfl)) rfl, q_TB_in (q_mt1 (List.mem_of_getElem? (i := 125) rfl)) rfl, q_TB_in (q_mt1 (List.mem_of_getElem? (i := 4) rfl)) rfl, q_TB_in (q_mt1 (List.mem_of_getElem? (i := 126) rfl)) rfl, rfl, rfl, ⟨by decide, by decide, by decide +kernel⟩, by decide⟩
theorem kqRX10_11 : k_pok "BlockedCars" (29, 0, 9, 3) := fun C T N h => by
    have h : some (RX10, TX10, 16) = some (C, T, N) := h
    cases h
    exact q_TB_in (q_mt2 (List.mem_of_getElem? (i := 75) rfl)) rfl
theorem kqRX10_12 : k_pok "BlockedCars" (33, 0, 9, 4) := fun C T N h => by
    have h : some (RX10, TX10, 16) = some (C, T, N) := h
    cases h
    exact q_TB_in (q_mt2 (List.mem_of_getElem? (i := 76) rfl)) rfl
theorem kqRX10_13 : k_pok "BlockedCars" (36, 7, 6, 0) := fun C T N h => by
    have h : some (RX6, TX6, 5) = some (C, T, N) := h
    cases h
    exact q_TB_in (q_mt1 (List.mem_of_getElem? (i := 149) rfl)) rfl
theorem kqRX10_14 : k_pok "BlockedCars" (38, 23, 211, 0) := ⟨(yX6_init, cX6_init, 1, none), rfl, List.mem_of_getElem? (i := 2) rfl, q_TB_in (q_mt1 (List.mem_of_getElem? (i := 152) rfl)) rfl, q_TB_in (q_mt1 (List.mem_of_getElem? (i := 5) rfl)) rfl, q_TB_in (q_mt1 (List.mem_of_getElem? (i := 153) rfl)) rfl, rfl, rfl, ⟨by decide, by decide, by decide +kernel⟩, by decide⟩
theorem kqRX10_15 : k_pok "BlockedCars" (39, 0, 9, 5) := fun C T N h => by
    have h : some (RX10, TX10, 16) = some (C, T, N) := h
    cases h
    exact q_TB_in (q_mt2 (List.mem_of_getElem? (i := 77) rfl)) rfl
theorem kqRX10_16 : k_pok "BlockedCars" (43, 0, 9, 6) := fun C T N h => by
    have h : some (RX10, TX10, 16) = some (C, T, N) := h
    cases h
    exact q_TB_in (q_mt2 (List.mem_of_getElem? (i := 78) rfl)) rfl
theorem kqRX10_17 : k_pok "BlockedCars" (46, 7, 7, 0) := fun C T N h => by
    have h : some (RX8, TX8, 8) = some (C, T, N) := h
    cases h
    exact q_TB_in (q_mt1 (List.mem_of_getElem? (i := 172) rfl)) rfl
theorem kqRX10_18 : k_pok "BlockedCars" (48, 23, 233, 0) := ⟨(yX8_init, cX8_init, 1, none), rfl, List.mem_of_getElem? (i := 3) rfl, q_TB_in (q_mt1 (List.mem_of_getElem? (i := 175) rfl)) rfl, q_TB_in (q_mt1 (List.mem_of_getElem? (i := 6) rfl)) rfl, q_TB_in (q_mt1 (List.mem_of_getElem? (i := 176) rfl)) rfl, rfl, rfl, ⟨by decide, by decide, by decide +kernel⟩, by decide⟩
theorem kqRX10_19 : k_pok "BlockedCars" (49, 0, 9, 7) := fun C T N h => by
    have h : some (RX10, TX10, 16) = some (C, T, N) := h
    cases h
    exact q_TB_in (q_mt2 (List.mem_of_getElem? (i := 79) rfl)) rfl
theorem kqRX10_20 : k_pok "BlockedCars" (53, 7, 2, 0) := fun C T N h => by
    have h : some (RX2, TX2, 2) = some (C, T, N) := h
    cases h
    exact q_TB_in (q_mt1 (List.mem_of_getElem? (i := 205) rfl)) rfl
theorem kqRX10_21 : k_pok "BlockedCars" (53, 8, 4, 0) := q_TB_in (q_mt1 (List.mem_of_getElem? (i := 205) rfl)) rfl
theorem kqRX10_22 : k_pok "BlockedCars" (55, 22, 176, 0) := ⟨(yX2_init, cX2_init, 2, none), rfl, q_TB_in (q_mt1 (List.mem_of_getElem? (i := 207) rfl)) rfl, q_TB_in (q_mt1 (List.mem_of_getElem? (i := 208) rfl)) rfl, q_TB_in (q_mt1 (List.mem_of_getElem? (i := 7) rfl)) rfl, q_TB_in (q_mt1 (List.mem_of_getElem? (i := 209) rfl)) rfl, rfl, rfl, ⟨by decide, by decide, by decide +kernel⟩, by decide⟩
theorem kqRX10_23 : k_pok "BlockedCars" (56, 0, 9, 8) := fun C T N h => by
    have h : some (RX10, TX10, 16) = some (C, T, N) := h
    cases h
    exact q_TB_in (q_mt2 (List.mem_of_getElem? (i := 80) rfl)) rfl
theorem kqRX10_24 : k_pok "BlockedCars" (60, 0, 9, 9) := fun C T N h => by
    have h : some (RX10, TX10, 16) = some (C, T, N) := h
    cases h
    exact q_TB_in (q_mt2 (List.mem_of_getElem? (i := 81) rfl)) rfl
theorem kqRX10_25 : k_pok "BlockedCars" (64, 7, 5, 0) := fun C T N h => by
    have h : some (RX5, TX5, 12) = some (C, T, N) := h
    cases h
    exact q_TB_in (q_mt2 (List.mem_of_getElem? (i := 2) rfl)) rfl
theorem kqRX10_26 : k_pok "BlockedCars" (66, 23, 202, 0) := ⟨(yX5_init, cX5_init, 1, none), rfl, List.mem_of_getElem? (i := 4) rfl, q_TB_in (q_mt2 (List.mem_of_getElem? (i := 5) rfl)) rfl, q_TB_in (q_mt1 (List.mem_of_getElem? (i := 9) rfl)) rfl, q_TB_in (q_mt2 (List.mem_of_getElem? (i := 6) rfl)) rfl, rfl, rfl, ⟨by decide, by decide, by decide +kernel⟩, by decide⟩
theorem kqRX10_27 : k_pok "BlockedCars" (67, 0, 9, 10) := fun C T N h => by
    have h : some (RX10, TX10, 16) = some (C, T, N) := h
    cases h
    exact q_TB_in (q_mt2 (List.mem_of_getElem? (i := 82) rfl)) rfl
theorem kqRX10_28 : k_pok "BlockedCars" (71, 7, 0, 0) := fun C T N h => by
    have h : some (RX0, TX0, 4) = some (C, T, N) := h
    cases h
    exact q_TB_in (q_mt2 (List.mem_of_getElem? (i := 50) rfl)) rfl
theorem kqRX10_29 : k_pok "BlockedCars" (73, 23, 155, 0) := ⟨(yX0_init, cX0_init, 1, none), rfl, List.mem_of_getElem? (i := 5) rfl, q_TB_in (q_mt2 (List.mem_of_getElem? (i := 53) rfl)) rfl, q_TB_in (q_mt1 (List.mem_of_getElem? (i := 10) rfl)) rfl, q_TB_in (q_mt2 (List.mem_of_getElem? (i := 54) rfl)) rfl, rfl, rfl, ⟨by decide, by decide, by decide +kernel⟩, by decide⟩
theorem kqRX10_30 : k_pok "BlockedCars" (74, 0, 9, 11) := fun C T N h => by
    have h : some (RX10, TX10, 16) = some (C, T, N) := h
    cases h
    exact q_TB_in (q_mt2 (List.mem_of_getElem? (i := 83) rfl)) rfl
theorem kloRX10 : ∀ e ∈ klRX10, k_pok "BlockedCars" e := List.forall_mem_cons.mpr ⟨kqRX10_0, List.forall_mem_cons.mpr ⟨kqRX10_1, List.forall_mem_cons.mpr ⟨kqRX10_2, List.forall_mem_cons.mpr ⟨kqRX10_3, List.forall_mem_cons.mpr ⟨kqRX10_4, List.forall_mem_cons.mpr ⟨kqRX10_5, List.forall_mem_cons.mpr ⟨kqRX10_6, List.forall_mem_cons.mpr ⟨kqRX10_7, List.forall_mem_cons.mpr ⟨kqRX10_8, List.forall_mem_cons.mpr ⟨kqRX10_9, List.forall_mem_cons.mpr ⟨kqRX10_10, List.forall_mem_cons.mpr ⟨kqRX10_11, List.forall_mem_cons.mpr ⟨kqRX10_12, List.forall_mem_cons.mpr ⟨kqRX10_13, List.forall_mem_cons.mpr ⟨kqRX10_14, List.forall_mem_cons.mpr ⟨kqRX10_15, List.forall_mem_cons.mpr ⟨kqRX10_16, List.forall_mem_cons.mpr ⟨kqRX10_17, List.forall_mem_cons.mpr ⟨kqRX10_18, List.forall_mem_cons.mpr ⟨kqRX10_19, List.forall_mem_cons.mpr ⟨kqRX10_20, List.forall_mem_cons.mpr ⟨kqRX10_21, List.forall_mem_cons.mpr ⟨kqRX10_22, List.forall_mem_cons.mpr ⟨kqRX10_23, List.forall_mem_cons.mpr ⟨kqRX10_24, List.forall_mem_cons.mpr ⟨kqRX10_25, List.forall_mem_cons.mpr ⟨kqRX10_26, List.forall_mem_cons.mpr ⟨kqRX10_27, List.forall_mem_cons.mpr ⟨kqRX10_28, List.forall_mem_cons.mpr ⟨kqRX10_29, List.forall_mem_cons.mpr ⟨kqRX10_30, (fun _ h => nomatch h)⟩⟩⟩⟩⟩⟩⟩⟩⟩⟩⟩⟩⟩⟩⟩⟩⟩⟩⟩⟩⟩⟩⟩⟩⟩⟩⟩⟩⟩⟩⟩
def kkRX10 : List (Nat × Int32) := []
theorem kkoRX10 : ∀ e ∈ kkRX10, Cond.constant "BlockedCars" e.1 e.2 ∈ q_TB := (fun _ h => nomatch h)
def klRX11 : List (Nat × Nat × Nat × Nat) := [(0, 11, 10, 0), (1, 10, 0, 0), (9, 0, 10, 3), (13, 0, 10, 9), (17, 0, 10, 10), (20, 0, 10, 11), (23, 0, 10, 12), (26, 0, 10, 13), (29, 0, 10, 14), (32, 0, 10, 15), (35, 0, 10, 16), (38, 9, 0, 0), (40, 0, 10, 17), (43, 0, 10, 18), (46, 0, 10, 21), (49, 0, 10, 22), (52, 0, 10, 23), (55, 0, 10, 24), (58, 0, 10, 25), (61, 0, 10, 26), (64, 0, 10, 27), (67, 0, 10, 29), (70, 0, 10, 30), (73, 0, 10, 31), (76, 0, 10, 32), (80, 0, 10, 40), (83, 0, 10, 41), (86, 0, 10, 42), (89, 0, 10, 43), (92, 0, 10, 44), (95, 0, 10, 45), (98, 1, 43, 0), (101, 1, 71, 0), (190, 2, 69, 3), (194, 0, 10, 19), (197, 0, 10, 33), (200, 0, 10, 34), (203, 0, 10, 35), (206, 0, 10, 36)]
theorem kqRX11_0 : k_pok "BlockedCarsModel" (0, 11, 10, 0) := fun C T N h => by
    have h : some (RX11, TX11, 53) = some (C, T, N) := h
    cases h
    rfl
theorem kqRX11_1 : k_pok "BlockedCarsModel" (1, 10, 0, 0) := q_TB_in (q_mt6 (List.mem_of_getElem? (i := 83) rfl)) rfl
theorem kqRX11_2 : k_pok "BlockedCarsModel" (9, 0, 10, 3) := fun C T N h => by
    have h : some (RX11, TX11, 53) = some (C, T, N) := h
    cases h
    exact q_TB_in (q_mt6 (List.mem_of_getElem? (i := 101) rfl)) rfl
theorem kqRX11_3 : k_pok "BlockedCarsModel" (13, 0, 10, 9) := fun C T N h => by
    have h : some (RX11, TX11, 53) = some (C, T, N) := h
    cases h
    exact q_TB_in (q_mt6 (List.mem_of_getElem? (i := 107) rfl)) rfl
theorem kqRX11_4 : k_pok "BlockedCarsModel" (17, 0, 10, 10) := fun C T N h => by
    have h : some (RX11, TX11, 53) = some (C, T, N) := h
    cases h
    exact q_TB_in (q_mt6 (List.mem_of_getElem? (i := 108) rfl)) rfl
theorem kqRX11_5 : k_pok "BlockedCarsModel" (20, 0, 10, 11) := fun C T N h => by
    have h : some (RX11, TX11, 53) = some (C, T, N) := h
    cases h
    exact q_TB_in (q_mt6 (List.mem_of_getElem? (i := 109) rfl)) rfl
theorem kqRX11_6 : k_pok "BlockedCarsModel" (23, 0, 10, 12) := fun C T N h => by
    have h : some (RX11, TX11, 53) = some (C, T, N) := h
    cases h
    exact q_TB_in (q_mt6 (List.mem_of_getElem? (i := 110) rfl)) rfl
theorem kqRX11_7 : k_pok "BlockedCarsModel" (26, 0, 10, 13) := fun C T N h => by
    have h : some (RX11, TX11, 53) = some (C, T, N) := h
    cases h
    exact q_TB_in (q_mt6 (List.mem_of_getElem? (i := 111) rfl)) rfl
theorem kqRX11_8 : k_pok "BlockedCarsModel" (29, 0, 10, 14) := fun C T N h => by
    have h : some (RX11, TX11, 53) = some (C, T, N) := h
    cases h
    exact q_TB_in (q_mt6 (List.mem_of_getElem? (i := 112) rfl)) rfl
theorem kqRX11_9 : k_pok "BlockedCarsModel" (32, 0, 10, 15) := fun C T N h => by
    have h : some (RX11, TX11, 53) = some (C, T, N) := h
    cases h
    exact q_TB_in (q_mt6 (List.mem_of_getElem? (i := 113) rfl)) rfl
theorem kqRX11_10 : k_pok "BlockedCarsModel" (35, 0, 10, 16) := fun C T N h => by
    have h : some (RX11, TX11, 53) = some (C, T, N) := h
    cases h
    exact q_TB_in (q_mt6 (List.mem_of_getElem? (i := 114) rfl)) rfl
theorem kqRX11_11 : k_pok "BlockedCarsModel" (38, 9, 0, 0) := q_TB_in (q_mt6 (List.mem_of_getElem? (i := 84) rfl)) rfl
theorem kqRX11_12 : k_pok "BlockedCarsModel" (40, 0, 10, 17) := fun C T N h => by
    have h : some (RX11, TX11, 53) = some (C, T, N) := h
    cases h
    exact q_TB_in (q_mt6 (List.mem_of_getElem? (i := 115) rfl)) rfl
theorem kqRX11_13 : k_pok "BlockedCarsModel" (43, 0, 10, 18) := fun C T N h => by
    have h : some (RX11, TX11, 53) = some (C, T, N) := h
    cases h
    exact q_TB_in (q_mt6 (List.mem_of_getElem? (i := 116) rfl)) rfl
theorem kqRX11_14 : k_pok "BlockedCarsModel" (46, 0, 10, 21) := fun C T N h => by
    have h : some (RX11, TX11, 53) = some (C, T, N) := h
    cases h
    exact q_TB_in (q_mt6 (List.mem_of_getElem? (i := 119) rfl)) rfl
theorem kqRX11_15 : k_pok "BlockedCarsModel" (49, 0, 10, 22) := fun C T N h => by
    have h : some (RX11, TX11, 53) = some (C, T, N) := h
    cases h
    exact q_TB_in (q_mt6 (List.mem_of_getElem? (i := 120) rfl)) rfl
theorem kqRX11_16 : k_pok "BlockedCarsModel" (52, 0, 10, 23) := fun C T N h => by
    have h : some (RX11, TX11, 53) = some (C, T, N) := h
    cases h
    exact q_TB_in (q_mt6 (List.mem_of_getElem? (i := 121) rfl)) rfl
theorem kqRX11_17 : k_pok "BlockedCarsModel" (55, 0, 10, 24) := fun C T N h => by
    have h : some (RX11, TX11, 53) = some (C, T, N) := h
    cases h
    exact q_TB_in (q_mt6 (List.mem_of_getElem? (i := 122) rfl)) rfl
theorem kqRX11_18 : k_pok "BlockedCarsModel" (58, 0, 10, 25) := fun C T N h => by
    have h : some (RX11, TX11, 53) = some (C, T, N) := h
    cases h
    exact q_TB_in (q_mt6 (List.mem_of_getElem? (i := 123) rfl)) rfl
theorem kqRX11_19 : k_pok "BlockedCarsModel" (61, 0, 10, 26) := fun C T N h => by
    have h : some (RX11, TX11, 53) = some (C, T, N) := h
    cases h
    exact q_TB_in (q_mt6 (List.mem_of_getElem? (i := 124) rfl)) rfl
theorem kqRX11_20 : k_pok "BlockedCarsModel" (64, 0, 10, 27) := fun C T N h => by
    have h : some (RX11, TX11, 53) = some (C, T, N) := h
    cases h
    exact q_TB_in (q_mt6 (List.mem_of_getElem? (i := 125) rfl)) rfl
theorem kqRX11_21 : k_pok "BlockedCarsModel" (67, 0, 10, 29) := fun C T N h => by
    have h : some (RX11, TX11, 53) = some (C, T, N) := h
    cases h
    exact q_TB_in (q_mt6 (List.mem_of_getElem? (i := 127) rfl)) rfl
theorem kqRX11_22 : k_pok "BlockedCarsModel" (70, 0, 10, 30) := fun C T N h => by
    have h : some (RX11, TX11, 53) = some (C, T, N) := h
    cases h
    exact q_TB_in (q_mt6 (List.mem_of_getElem? (i := 128) rfl)) rfl
theorem kqRX11_23 : k_pok "BlockedCarsModel" (73, 0, 10, 31) := fun C T N h => by
    have h : some (RX11, TX11, 53) = some (C, T, N) := h
    cases h
    exact q_TB_in (q_mt6 (List.mem_of_getElem? (i := 129) rfl)) rfl
theorem kqRX11_24 : k_pok "BlockedCarsModel" (76, 0, 10, 32) := fun C T N h => by
    have h : some (RX11, TX11, 53) = some (C, T, N) := h
    cases h
    exact q_TB_in (q_mt6 (List.mem_of_getElem? (i := 130) rfl)) rfl
theorem kqRX11_25 : k_pok "BlockedCarsModel" (80, 0, 10, 40) := fun C T N h => by
    have h : some (RX11, TX11, 53) = some (C, T, N) := h
    cases h
    exact q_TB_in (q_mt6 (List.mem_of_getElem? (i := 138) rfl)) rfl
theorem kqRX11_26 : k_pok "BlockedCarsModel" (83, 0, 10, 41) := fun C T N h => by
    have h : some (RX11, TX11, 53) = some (C, T, N) := h
    cases h
    exact q_TB_in (q_mt6 (List.mem_of_getElem? (i := 139) rfl)) rfl
theorem kqRX11_27 : k_pok "BlockedCarsModel" (86, 0, 10, 42) := fun C T N h => by
    have h : some (RX11, TX11, 53) = some (C, T, N) := h
    cases h
    exact q_TB_in (q_mt6 (List.mem_of_getElem? (i := 140) rfl)) rfl
theorem kqRX11_28 : k_pok "BlockedCarsModel" (89, 0, 10, 43) := fun C T N h => by
    have h : some (RX11, TX11, 53) = some (C, T, N) := h
    cases h
    exact q_TB_in (q_mt6 (List.mem_of_getElem? (i := 141) rfl)) rfl
theorem kqRX11_29 : k_pok "BlockedCarsModel" (92, 0, 10, 44) := fun C T N h => by
    have h : some (RX11, TX11, 53) = some (C, T, N) := h
    cases h
    exact q_TB_in (q_mt6 (List.mem_of_getElem? (i := 142) rfl)) rfl
theorem kqRX11_30 : k_pok "BlockedCarsModel" (95, 0, 10, 45) := fun C T N h => by
    have h : some (RX11, TX11, 53) = some (C, T, N) := h
    cases h
    exact q_TB_in (q_mt6 (List.mem_of_getElem? (i := 143) rfl)) rfl
theorem kqRX11_31 : k_pok "BlockedCarsModel" (98, 1, 43, 0) := ⟨⟨(yX11_tellsNothing, cX11_tellsNothing, 2, none), rfl, q_TB_in (q_mt6 (List.mem_of_getElem? (i := 87) rfl)) rfl, q_TB_in (q_mt6 (List.mem_of_getElem? (i := 89) rfl)) rfl, q_TB_in (q_pv3 (i := 10) rfl) rfl, q_TB_in (q_mt1 (List.mem_of_getElem? (i := 11) rfl)) rfl, q_TB_in (q_mt6 (List.mem_of_getElem? (i := 90) rfl)) rfl, ⟨by decide, by decide, by decide +kernel⟩, by decide⟩, rfl⟩
theorem kqRX11_32 : k_pok "BlockedCarsModel" (101, 1, 71, 0) := ⟨⟨(yX11_beginsAnew, cX11_beginsAnew, 2, none), rfl, q_TB_in (q_mt6 (List.mem_of_getElem? (i := 91) rfl)) rfl, q_TB_in (q_mt6 (List.mem_of_getElem? (i := 93) rfl)) rfl, q_TB_in (q_pv3 (i := 11) rfl) rfl, q_TB_in (q_mt1 (List.mem_of_getElem? (i := 11) rfl)) rfl, q_TB_in (q_mt6 (List.mem_of_getElem? (i := 94) rfl)) rfl, ⟨by decide, by decide, by decide +kernel⟩, by decide⟩, rfl⟩
theorem kqRX11_33 : k_pok "BlockedCarsModel" (190, 2, 69, 3) := ⟨(yX11_lays, cX11_lays, 5, none), rfl, q_TB_in (q_mt6 (List.mem_of_getElem? (i := 95) rfl)) rfl, q_TB_in (q_mt6 (List.mem_of_getElem? (i := 96) rfl)) rfl, q_TB_in (q_mt1 (List.mem_of_getElem? (i := 11) rfl)) rfl, q_TB_in (q_mt6 (List.mem_of_getElem? (i := 97) rfl)) rfl, ⟨by decide, by decide, by decide +kernel⟩, by decide⟩
theorem kqRX11_34 : k_pok "BlockedCarsModel" (194, 0, 10, 19) := fun C T N h => by
    have h : some (RX11, TX11, 53) = some (C, T, N) := h
    cases h
    exact q_TB_in (q_mt6 (List.mem_of_getElem? (i := 117) rfl)) rfl
theorem kqRX11_35 : k_pok "BlockedCarsModel" (197, 0, 10, 33) := fun C T N h => by
    have h : some (RX11, TX11, 53) = some (C, T, N) := h
    cases h
    exact q_TB_in (q_mt6 (List.mem_of_getElem? (i := 131) rfl)) rfl
theorem kqRX11_36 : k_pok "BlockedCarsModel" (200, 0, 10, 34) := fun C T N h => by
    have h : some (RX11, TX11, 53) = some (C, T, N) := h
    cases h
    exact q_TB_in (q_mt6 (List.mem_of_getElem? (i := 132) rfl)) rfl
theorem kqRX11_37 : k_pok "BlockedCarsModel" (203, 0, 10, 35) := fun C T N h => by
    have h : some (RX11, TX11, 53) = some (C, T, N) := h
    cases h
    exact q_TB_in (q_mt6 (List.mem_of_getElem? (i := 133) rfl)) rfl
theorem kqRX11_38 : k_pok "BlockedCarsModel" (206, 0, 10, 36) := fun C T N h => by
    have h : some (RX11, TX11, 53) = some (C, T, N) := h
    cases h
    exact q_TB_in (q_mt6 (List.mem_of_getElem? (i := 134) rfl)) rfl
theorem kloRX11 : ∀ e ∈ klRX11, k_pok "BlockedCarsModel" e := List.forall_mem_cons.mpr ⟨kqRX11_0, List.forall_mem_cons.mpr ⟨kqRX11_1, List.forall_mem_cons.mpr ⟨kqRX11_2, List.forall_mem_cons.mpr ⟨kqRX11_3, List.forall_mem_cons.mpr ⟨kqRX11_4, List.forall_mem_cons.mpr ⟨kqRX11_5, List.forall_mem_cons.mpr ⟨kqRX11_6, List.forall_mem_cons.mpr ⟨kqRX11_7, List.forall_mem_cons.mpr ⟨kqRX11_8, List.forall_mem_cons.mpr ⟨kqRX11_9, List.forall_mem_cons.mpr ⟨kqRX11_10, List.forall_mem_cons.mpr ⟨kqRX11_11, List.forall_mem_cons.mpr ⟨kqRX11_12, List.forall_mem_cons.mpr ⟨kqRX11_13, List.forall_mem_cons.mpr ⟨kqRX11_14, List.forall_mem_cons.mpr ⟨kqRX11_15, List.forall_mem_cons.mpr ⟨kqRX11_16, List.forall_mem_cons.mpr ⟨kqRX11_17, List.forall_mem_cons.mpr ⟨kqRX11_18, List.forall_mem_cons.mpr ⟨kqRX11_19, List.forall_mem_cons.mpr ⟨kqRX11_20, List.forall_mem_cons.mpr ⟨kqRX11_21, List.forall_mem_cons.mpr ⟨kqRX11_22, List.forall_mem_cons.mpr ⟨kqRX11_23, List.forall_mem_cons.mpr ⟨kqRX11_24, List.forall_mem_cons.mpr ⟨kqRX11_25, List.forall_mem_cons.mpr ⟨kqRX11_26, List.forall_mem_cons.mpr ⟨kqRX11_27, List.forall_mem_cons.mpr ⟨kqRX11_28, List.forall_mem_cons.mpr ⟨kqRX11_29, List.forall_mem_cons.mpr ⟨kqRX11_30, List.forall_mem_cons.mpr ⟨kqRX11_31, List.forall_mem_cons.mpr ⟨kqRX11_32, List.forall_mem_cons.mpr ⟨kqRX11_33, List.forall_mem_cons.mpr ⟨kqRX11_34, List.forall_mem_cons.mpr ⟨kqRX11_35, List.forall_mem_cons.mpr ⟨kqRX11_36, List.forall_mem_cons.mpr ⟨kqRX11_37, List.forall_mem_cons.mpr ⟨kqRX11_38, (fun _ h => nomatch h)⟩⟩⟩⟩⟩⟩⟩⟩⟩⟩⟩⟩⟩⟩⟩⟩⟩⟩⟩⟩⟩⟩⟩⟩⟩⟩⟩⟩⟩⟩⟩⟩⟩⟩⟩⟩⟩⟩⟩
def kkRX11 : List (Nat × Int32) := [(79, 40500)]
theorem kkoRX11 : ∀ e ∈ kkRX11, Cond.constant "BlockedCarsModel" e.1 e.2 ∈ q_TB := List.forall_mem_cons.mpr ⟨q_TB_in (q_mt6 (List.mem_of_getElem? (i := 86) rfl)) rfl, (fun _ h => nomatch h)⟩
def klRX0 : List (Nat × Nat × Nat × Nat) := [(3, 10, 0, 0)]
theorem kqRX0_0 : k_pok "BlockedCars$Days" (3, 10, 0, 0) := q_TB_in (q_mt2 (List.mem_of_getElem? (i := 55) rfl)) rfl
theorem kloRX0 : ∀ e ∈ klRX0, k_pok "BlockedCars$Days" e := List.forall_mem_cons.mpr ⟨kqRX0_0, (fun _ h => nomatch h)⟩
def kkRX0 : List (Nat × Int32) := []
theorem kkoRX0 : ∀ e ∈ kkRX0, Cond.constant "BlockedCars$Days" e.1 e.2 ∈ q_TB := (fun _ h => nomatch h)
def klRX1 : List (Nat × Nat × Nat × Nat) := [(0, 11, 1, 0), (3, 10, 0, 0), (9, 0, 1, 0), (15, 0, 1, 1), (18, 0, 1, 2), (21, 1, 162, 0), (24, 0, 1, 3), (28, 1, 163, 1)]
theorem kqRX1_0 : k_pok "BlockedCars$Law" (0, 11, 1, 0) := fun C T N h => by
    have h : some (RX1, TX1, 4) = some (C, T, N) := h
    cases h
    rfl
theorem kqRX1_1 : k_pok "BlockedCars$Law" (3, 10, 0, 0) := q_TB_in (q_mt1 (List.mem_of_getElem? (i := 127) rfl)) rfl
theorem kqRX1_2 : k_pok "BlockedCars$Law" (9, 0, 1, 0) := fun C T N h => by
    have h : some (RX1, TX1, 4) = some (C, T, N) := h
    cases h
    exact q_TB_in (q_mt1 (List.mem_of_getElem? (i := 136) rfl)) rfl
theorem kqRX1_3 : k_pok "BlockedCars$Law" (15, 0, 1, 1) := fun C T N h => by
    have h : some (RX1, TX1, 4) = some (C, T, N) := h
    cases h
    exact q_TB_in (q_mt1 (List.mem_of_getElem? (i := 137) rfl)) rfl
theorem kqRX1_4 : k_pok "BlockedCars$Law" (18, 0, 1, 2) := fun C T N h => by
    have h : some (RX1, TX1, 4) = some (C, T, N) := h
    cases h
    exact q_TB_in (q_mt1 (List.mem_of_getElem? (i := 138) rfl)) rfl
theorem kqRX1_5 : k_pok "BlockedCars$Law" (21, 1, 162, 0) := ⟨⟨(yX1_writeDefault, cX1_writeDefault, 1, none), rfl, q_TB_in (q_mt1 (List.mem_of_getElem? (i := 128) rfl)) rfl, q_TB_in (q_mt1 (List.mem_of_getElem? (i := 130) rfl)) rfl, q_TB_in (q_pv1 (i := 0) rfl) rfl, q_TB_in (q_mt1 (List.mem_of_getElem? (i := 4) rfl)) rfl, q_TB_in (q_mt1 (List.mem_of_getElem? (i := 131) rfl)) rfl, ⟨by decide, by decide, by decide +kernel⟩, by decide⟩, rfl⟩
theorem kqRX1_6 : k_pok "BlockedCars$Law" (24, 0, 1, 3) := fun C T N h => by
    have h : some (RX1, TX1, 4) = some (C, T, N) := h
    cases h
    exact q_TB_in (q_mt1 (List.mem_of_getElem? (i := 139) rfl)) rfl
theorem kqRX1_7 : k_pok "BlockedCars$Law" (28, 1, 163, 1) := ⟨⟨(yX1_write, cX1_write, 2, none), rfl, q_TB_in (q_mt1 (List.mem_of_getElem? (i := 132) rfl)) rfl, q_TB_in (q_mt1 (List.mem_of_getElem? (i := 134) rfl)) rfl, q_TB_in (q_pv1 (i := 1) rfl) rfl, q_TB_in (q_mt1 (List.mem_of_getElem? (i := 4) rfl)) rfl, q_TB_in (q_mt1 (List.mem_of_getElem? (i := 135) rfl)) rfl, ⟨by decide, by decide, by decide +kernel⟩, by decide⟩, rfl⟩
theorem kloRX1 : ∀ e ∈ klRX1, k_pok "BlockedCars$Law" e := List.forall_mem_cons.mpr ⟨kqRX1_0, List.forall_mem_cons.mpr ⟨kqRX1_1, List.forall_mem_cons.mpr ⟨kqRX1_2, List.forall_mem_cons.mpr ⟨kqRX1_3, List.forall_mem_cons.mpr ⟨kqRX1_4, List.forall_mem_cons.mpr ⟨kqRX1_5, List.forall_mem_cons.mpr ⟨kqRX1_6, List.forall_mem_cons.mpr ⟨kqRX1_7, (fun _ h => nomatch h)⟩⟩⟩⟩⟩⟩⟩⟩
def kkRX1 : List (Nat × Int32) := []
theorem kkoRX1 : ∀ e ∈ kkRX1, Cond.constant "BlockedCars$Law" e.1 e.2 ∈ q_TB := (fun _ h => nomatch h)
def klRX2 : List (Nat × Nat × Nat × Nat) := [(0, 11, 2, 0), (3, 10, 0, 0), (9, 7, 3, 0), (9, 8, 3, 0), (11, 0, 2, 0), (17, 23, 180, 0)]
theorem kqRX2_0 : k_pok "BlockedCars$Past" (0, 11, 2, 0) := fun C T N h => by
    have h : some (RX2, TX2, 2) = some (C, T, N) := h
    cases h
    rfl
theorem kqRX2_1 : k_pok "BlockedCars$Past" (3, 10, 0, 0) := q_TB_in (q_mt1 (List.mem_of_getElem? (i := 210) rfl)) rfl
theorem kqRX2_2 : k_pok "BlockedCars$Past" (9, 7, 3, 0) := fun C T N h => by
    have h : some (RX3, TX3, 3) = some (C, T, N) := h
    cases h
    exact q_TB_in (q_mt1 (List.mem_of_getElem? (i := 211) rfl)) rfl
theorem kqRX2_3 : k_pok "BlockedCars$Past" (9, 8, 3, 0) := q_TB_in (q_mt1 (List.mem_of_getElem? (i := 211) rfl)) rfl
theorem kqRX2_4 : k_pok "BlockedCars$Past" (11, 0, 2, 0) := fun C T N h => by
    have h : some (RX2, TX2, 2) = some (C, T, N) := h
    cases h
    exact q_TB_in (q_mt1 (List.mem_of_getElem? (i := 233) rfl)) rfl
theorem kqRX2_5 : k_pok "BlockedCars$Past" (17, 23, 180, 0) := ⟨(yX3_init, cX3_init, 1, none), rfl, List.mem_of_getElem? (i := 6) rfl, q_TB_in (q_mt1 (List.mem_of_getElem? (i := 215) rfl)) rfl, q_TB_in (q_mt1 (List.mem_of_getElem? (i := 8) rfl)) rfl, q_TB_in (q_mt1 (List.mem_of_getElem? (i := 216) rfl)) rfl, rfl, rfl, ⟨by decide, by decide, by decide +kernel⟩, by decide⟩
theorem kloRX2 : ∀ e ∈ klRX2, k_pok "BlockedCars$Past" e := List.forall_mem_cons.mpr ⟨kqRX2_0, List.forall_mem_cons.mpr ⟨kqRX2_1, List.forall_mem_cons.mpr ⟨kqRX2_2, List.forall_mem_cons.mpr ⟨kqRX2_3, List.forall_mem_cons.mpr ⟨kqRX2_4, List.forall_mem_cons.mpr ⟨kqRX2_5, (fun _ h => nomatch h)⟩⟩⟩⟩⟩⟩
def kkRX2 : List (Nat × Int32) := []
theorem kkoRX2 : ∀ e ∈ kkRX2, Cond.constant "BlockedCars$Past" e.1 e.2 ∈ q_TB := (fun _ h => nomatch h)
def klRX3 : List (Nat × Nat × Nat × Nat) := [(0, 11, 3, 0), (3, 10, 0, 0), (9, 0, 3, 2)]
theorem kqRX3_0 : k_pok "BlockedCars$Position" (0, 11, 3, 0) := fun C T N h => by
    have h : some (RX3, TX3, 3) = some (C, T, N) := h
    cases h
    rfl
theorem kqRX3_1 : k_pok "BlockedCars$Position" (3, 10, 0, 0) := q_TB_in (q_mt1 (List.mem_of_getElem? (i := 217) rfl)) rfl
theorem kqRX3_2 : k_pok "BlockedCars$Position" (9, 0, 3, 2) := fun C T N h => by
    have h : some (RX3, TX3, 3) = some (C, T, N) := h
    cases h
    exact q_TB_in (q_mt1 (List.mem_of_getElem? (i := 225) rfl)) rfl
theorem kloRX3 : ∀ e ∈ klRX3, k_pok "BlockedCars$Position" e := List.forall_mem_cons.mpr ⟨kqRX3_0, List.forall_mem_cons.mpr ⟨kqRX3_1, List.forall_mem_cons.mpr ⟨kqRX3_2, (fun _ h => nomatch h)⟩⟩⟩
def kkRX3 : List (Nat × Int32) := []
theorem kkoRX3 : ∀ e ∈ kkRX3, Cond.constant "BlockedCars$Position" e.1 e.2 ∈ q_TB := (fun _ h => nomatch h)
def klRX4 : List (Nat × Nat × Nat × Nat) := [(0, 11, 4, 0), (3, 10, 0, 0), (9, 0, 4, 0), (15, 0, 4, 6)]
theorem kqRX4_0 : k_pok "BlockedCars$Reader" (0, 11, 4, 0) := fun C T N h => by
    have h : some (RX4, TX4, 7) = some (C, T, N) := h
    cases h
    rfl
theorem kqRX4_1 : k_pok "BlockedCars$Reader" (3, 10, 0, 0) := q_TB_in (q_mt1 (List.mem_of_getElem? (i := 39) rfl)) rfl
theorem kqRX4_2 : k_pok "BlockedCars$Reader" (9, 0, 4, 0) := fun C T N h => by
    have h : some (RX4, TX4, 7) = some (C, T, N) := h
    cases h
    exact q_TB_in (q_mt1 (List.mem_of_getElem? (i := 40) rfl)) rfl
theorem kqRX4_3 : k_pok "BlockedCars$Reader" (15, 0, 4, 6) := fun C T N h => by
    have h : some (RX4, TX4, 7) = some (C, T, N) := h
    cases h
    exact q_TB_in (q_mt1 (List.mem_of_getElem? (i := 53) rfl)) rfl
theorem kloRX4 : ∀ e ∈ klRX4, k_pok "BlockedCars$Reader" e := List.forall_mem_cons.mpr ⟨kqRX4_0, List.forall_mem_cons.mpr ⟨kqRX4_1, List.forall_mem_cons.mpr ⟨kqRX4_2, List.forall_mem_cons.mpr ⟨kqRX4_3, (fun _ h => nomatch h)⟩⟩⟩⟩
def kkRX4 : List (Nat × Int32) := []
theorem kkoRX4 : ∀ e ∈ kkRX4, Cond.constant "BlockedCars$Reader" e.1 e.2 ∈ q_TB := (fun _ h => nomatch h)
def klRX5 : List (Nat × Nat × Nat × Nat) := [(0, 11, 5, 0), (5, 10, 0, 0), (11, 0, 5, 0), (15, 0, 5, 1), (20, 0, 5, 2), (24, 7, 8, 0), (26, 23, 247, 0), (27, 0, 5, 5)]
theorem kqRX5_0 : k_pok "BlockedCars$Search" (0, 11, 5, 0) := fun C T N h => by
    have h : some (RX5, TX5, 12) = some (C, T, N) := h
    cases h
    rfl
theorem kqRX5_1 : k_pok "BlockedCars$Search" (5, 10, 0, 0) := q_TB_in (q_mt2 (List.mem_of_getElem? (i := 7) rfl)) rfl
theorem kqRX5_2 : k_pok "BlockedCars$Search" (11, 0, 5, 0) := fun C T N h => by
    have h : some (RX5, TX5, 12) = some (C, T, N) := h
    cases h
    exact q_TB_in (q_mt2 (List.mem_of_getElem? (i := 11) rfl)) rfl
theorem kqRX5_3 : k_pok "BlockedCars$Search" (15, 0, 5, 1) := fun C T N h => by
    have h : some (RX5, TX5, 12) = some (C, T, N) := h
    cases h
    exact q_TB_in (q_mt2 (List.mem_of_getElem? (i := 12) rfl)) rfl
theorem kqRX5_4 : k_pok "BlockedCars$Search" (20, 0, 5, 2) := fun C T N h => by
    have h : some (RX5, TX5, 12) = some (C, T, N) := h
    cases h
    exact q_TB_in (q_mt2 (List.mem_of_getElem? (i := 13) rfl)) rfl
theorem kqRX5_5 : k_pok "BlockedCars$Search" (24, 7, 8, 0) := fun C T N h => by
    have h : some (RX9, TX9, 11) = some (C, T, N) := h
    cases h
    exact q_TB_in (q_mt2 (List.mem_of_getElem? (i := 9) rfl)) rfl
theorem kqRX5_6 : k_pok "BlockedCars$Search" (26, 23, 247, 0) := ⟨(yX9_init, cX9_init, 1, none), rfl, List.mem_of_getElem? (i := 7) rfl, q_TB_in (q_mt1 (List.mem_of_getElem? (i := 74) rfl)) rfl, q_TB_in (q_mt1 (List.mem_of_getElem? (i := 3) rfl)) rfl, q_TB_in (q_mt1 (List.mem_of_getElem? (i := 75) rfl)) rfl, rfl, rfl, ⟨by decide, by decide, by decide +kernel⟩, by decide⟩
theorem kqRX5_7 : k_pok "BlockedCars$Search" (27, 0, 5, 5) := fun C T N h => by
    have h : some (RX5, TX5, 12) = some (C, T, N) := h
    cases h
    exact q_TB_in (q_mt2 (List.mem_of_getElem? (i := 16) rfl)) rfl
theorem kloRX5 : ∀ e ∈ klRX5, k_pok "BlockedCars$Search" e := List.forall_mem_cons.mpr ⟨kqRX5_0, List.forall_mem_cons.mpr ⟨kqRX5_1, List.forall_mem_cons.mpr ⟨kqRX5_2, List.forall_mem_cons.mpr ⟨kqRX5_3, List.forall_mem_cons.mpr ⟨kqRX5_4, List.forall_mem_cons.mpr ⟨kqRX5_5, List.forall_mem_cons.mpr ⟨kqRX5_6, List.forall_mem_cons.mpr ⟨kqRX5_7, (fun _ h => nomatch h)⟩⟩⟩⟩⟩⟩⟩⟩
def kkRX5 : List (Nat × Int32) := [(19, 32768)]
theorem kkoRX5 : ∀ e ∈ kkRX5, Cond.constant "BlockedCars$Search" e.1 e.2 ∈ q_TB := List.forall_mem_cons.mpr ⟨q_TB_in (q_mt2 (List.mem_of_getElem? (i := 8) rfl)) rfl, (fun _ h => nomatch h)⟩
def klRX6 : List (Nat × Nat × Nat × Nat) := [(0, 11, 6, 0), (3, 10, 0, 0), (11, 0, 6, 3)]
theorem kqRX6_0 : k_pok "BlockedCars$Spots" (0, 11, 6, 0) := fun C T N h => by
    have h : some (RX6, TX6, 5) = some (C, T, N) := h
    cases h
    rfl
theorem kqRX6_1 : k_pok "BlockedCars$Spots" (3, 10, 0, 0) := q_TB_in (q_mt1 (List.mem_of_getElem? (i := 154) rfl)) rfl
theorem kqRX6_2 : k_pok "BlockedCars$Spots" (11, 0, 6, 3) := fun C T N h => by
    have h : some (RX6, TX6, 5) = some (C, T, N) := h
    cases h
    exact q_TB_in (q_mt1 (List.mem_of_getElem? (i := 159) rfl)) rfl
theorem kloRX6 : ∀ e ∈ klRX6, k_pok "BlockedCars$Spots" e := List.forall_mem_cons.mpr ⟨kqRX6_0, List.forall_mem_cons.mpr ⟨kqRX6_1, List.forall_mem_cons.mpr ⟨kqRX6_2, (fun _ h => nomatch h)⟩⟩⟩
def kkRX6 : List (Nat × Int32) := []
theorem kkoRX6 : ∀ e ∈ kkRX6, Cond.constant "BlockedCars$Spots" e.1 e.2 ∈ q_TB := (fun _ h => nomatch h)
def klRX8 : List (Nat × Nat × Nat × Nat) := [(0, 11, 7, 0), (3, 10, 0, 0), (9, 0, 7, 0), (15, 0, 7, 1), (18, 0, 7, 2), (21, 0, 7, 3), (24, 0, 7, 4)]
theorem kqRX8_0 : k_pok "BlockedCars$Work" (0, 11, 7, 0) := fun C T N h => by
    have h : some (RX8, TX8, 8) = some (C, T, N) := h
    cases h
    rfl
theorem kqRX8_1 : k_pok "BlockedCars$Work" (3, 10, 0, 0) := q_TB_in (q_mt1 (List.mem_of_getElem? (i := 177) rfl)) rfl
theorem kqRX8_2 : k_pok "BlockedCars$Work" (9, 0, 7, 0) := fun C T N h => by
    have h : some (RX8, TX8, 8) = some (C, T, N) := h
    cases h
    exact q_TB_in (q_mt1 (List.mem_of_getElem? (i := 178) rfl)) rfl
theorem kqRX8_3 : k_pok "BlockedCars$Work" (15, 0, 7, 1) := fun C T N h => by
    have h : some (RX8, TX8, 8) = some (C, T, N) := h
    cases h
    exact q_TB_in (q_mt1 (List.mem_of_getElem? (i := 179) rfl)) rfl
theorem kqRX8_4 : k_pok "BlockedCars$Work" (18, 0, 7, 2) := fun C T N h => by
    have h : some (RX8, TX8, 8) = some (C, T, N) := h
    cases h
    exact q_TB_in (q_mt1 (List.mem_of_getElem? (i := 180) rfl)) rfl
theorem kqRX8_5 : k_pok "BlockedCars$Work" (21, 0, 7, 3) := fun C T N h => by
    have h : some (RX8, TX8, 8) = some (C, T, N) := h
    cases h
    exact q_TB_in (q_mt1 (List.mem_of_getElem? (i := 181) rfl)) rfl
theorem kqRX8_6 : k_pok "BlockedCars$Work" (24, 0, 7, 4) := fun C T N h => by
    have h : some (RX8, TX8, 8) = some (C, T, N) := h
    cases h
    exact q_TB_in (q_mt1 (List.mem_of_getElem? (i := 182) rfl)) rfl
theorem kloRX8 : ∀ e ∈ klRX8, k_pok "BlockedCars$Work" e := List.forall_mem_cons.mpr ⟨kqRX8_0, List.forall_mem_cons.mpr ⟨kqRX8_1, List.forall_mem_cons.mpr ⟨kqRX8_2, List.forall_mem_cons.mpr ⟨kqRX8_3, List.forall_mem_cons.mpr ⟨kqRX8_4, List.forall_mem_cons.mpr ⟨kqRX8_5, List.forall_mem_cons.mpr ⟨kqRX8_6, (fun _ h => nomatch h)⟩⟩⟩⟩⟩⟩⟩
def kkRX8 : List (Nat × Int32) := []
theorem kkoRX8 : ∀ e ∈ kkRX8, Cond.constant "BlockedCars$Work" e.1 e.2 ∈ q_TB := (fun _ h => nomatch h)
def klRX9 : List (Nat × Nat × Nat × Nat) := [(0, 11, 8, 0), (3, 10, 0, 0), (11, 0, 8, 2), (15, 0, 8, 3), (19, 0, 8, 4), (22, 0, 8, 5), (25, 0, 8, 6), (28, 0, 8, 7), (31, 0, 8, 8), (34, 0, 8, 9), (37, 0, 8, 10)]
theorem kqRX9_0 : k_pok "BlockedCars$Yard" (0, 11, 8, 0) := fun C T N h => by
    have h : some (RX9, TX9, 11) = some (C, T, N) := h
    cases h
    rfl
theorem kqRX9_1 : k_pok "BlockedCars$Yard" (3, 10, 0, 0) := q_TB_in (q_mt1 (List.mem_of_getElem? (i := 76) rfl)) rfl
theorem kqRX9_2 : k_pok "BlockedCars$Yard" (11, 0, 8, 2) := fun C T N h => by
    have h : some (RX9, TX9, 11) = some (C, T, N) := h
    cases h
    exact q_TB_in (q_mt1 (List.mem_of_getElem? (i := 88) rfl)) rfl
theorem kqRX9_3 : k_pok "BlockedCars$Yard" (15, 0, 8, 3) := fun C T N h => by
    have h : some (RX9, TX9, 11) = some (C, T, N) := h
    cases h
    exact q_TB_in (q_mt1 (List.mem_of_getElem? (i := 90) rfl)) rfl
theorem kqRX9_4 : k_pok "BlockedCars$Yard" (19, 0, 8, 4) := fun C T N h => by
    have h : some (RX9, TX9, 11) = some (C, T, N) := h
    cases h
    exact q_TB_in (q_mt1 (List.mem_of_getElem? (i := 91) rfl)) rfl
theorem kqRX9_5 : k_pok "BlockedCars$Yard" (22, 0, 8, 5) := fun C T N h => by
    have h : some (RX9, TX9, 11) = some (C, T, N) := h
    cases h
    exact q_TB_in (q_mt1 (List.mem_of_getElem? (i := 92) rfl)) rfl
theorem kqRX9_6 : k_pok "BlockedCars$Yard" (25, 0, 8, 6) := fun C T N h => by
    have h : some (RX9, TX9, 11) = some (C, T, N) := h
    cases h
    exact q_TB_in (q_mt1 (List.mem_of_getElem? (i := 93) rfl)) rfl
theorem kqRX9_7 : k_pok "BlockedCars$Yard" (28, 0, 8, 7) := fun C T N h => by
    have h : some (RX9, TX9, 11) = some (C, T, N) := h
    cases h
    exact q_TB_in (q_mt1 (List.mem_of_getElem? (i := 94) rfl)) rfl
theorem kqRX9_8 : k_pok "BlockedCars$Yard" (31, 0, 8, 8) := fun C T N h => by
    have h : some (RX9, TX9, 11) = some (C, T, N) := h
    cases h
    exact q_TB_in (q_mt1 (List.mem_of_getElem? (i := 95) rfl)) rfl
theorem kqRX9_9 : k_pok "BlockedCars$Yard" (34, 0, 8, 9) := fun C T N h => by
    have h : some (RX9, TX9, 11) = some (C, T, N) := h
    cases h
    exact q_TB_in (q_mt1 (List.mem_of_getElem? (i := 96) rfl)) rfl
theorem kqRX9_10 : k_pok "BlockedCars$Yard" (37, 0, 8, 10) := fun C T N h => by
    have h : some (RX9, TX9, 11) = some (C, T, N) := h
    cases h
    exact q_TB_in (q_mt1 (List.mem_of_getElem? (i := 97) rfl)) rfl
theorem kloRX9 : ∀ e ∈ klRX9, k_pok "BlockedCars$Yard" e := List.forall_mem_cons.mpr ⟨kqRX9_0, List.forall_mem_cons.mpr ⟨kqRX9_1, List.forall_mem_cons.mpr ⟨kqRX9_2, List.forall_mem_cons.mpr ⟨kqRX9_3, List.forall_mem_cons.mpr ⟨kqRX9_4, List.forall_mem_cons.mpr ⟨kqRX9_5, List.forall_mem_cons.mpr ⟨kqRX9_6, List.forall_mem_cons.mpr ⟨kqRX9_7, List.forall_mem_cons.mpr ⟨kqRX9_8, List.forall_mem_cons.mpr ⟨kqRX9_9, List.forall_mem_cons.mpr ⟨kqRX9_10, (fun _ h => nomatch h)⟩⟩⟩⟩⟩⟩⟩⟩⟩⟩⟩
def kkRX9 : List (Nat × Int32) := []
theorem kkoRX9 : ∀ e ∈ kkRX9, Cond.constant "BlockedCars$Yard" e.1 e.2 ∈ q_TB := (fun _ h => nomatch h)
set_option maxRecDepth 100000 in
theorem k_ok0 : k_ok 0 := ⟨(yX10_init, cX10_init, 2, none), (kc_X10_init, 2, 197, 75706), klRX10, kkRX10, true, rfl, rfl, by decide +kernel, rfl, rfl, by decide +kernel, kloRX10, kkoRX10, fun _ => rfl, ⟨_, _, rfl⟩⟩
set_option maxRecDepth 100000 in
theorem k_ok42 : k_ok 42 := ⟨(yX11_init, cX11_init, 1, none), (kc_X11_init, 1, 482, 125965), klRX11, kkRX11, true, rfl, rfl, by decide +kernel, rfl, rfl, by decide +kernel, kloRX11, kkoRX11, fun _ => rfl, ⟨_, _, rfl⟩⟩
set_option maxRecDepth 100000 in
theorem k_ok43 : k_ok 43 := ⟨(yX11_tellsNothing, cX11_tellsNothing, 2, none), (kc_X11_tellsNothing, 2, 0, 0), klRX11, kkRX11, false, rfl, rfl, by decide +kernel, rfl, rfl, by decide +kernel, kloRX11, kkoRX11, (fun h => by cases h), ⟨_, _, rfl⟩⟩
set_option maxRecDepth 100000 in
theorem k_ok69 : k_ok 69 := ⟨(yX11_lays, cX11_lays, 5, none), (kc_X11_lays, 5, 0, 0), klRX11, kkRX11, false, rfl, rfl, by decide +kernel, rfl, rfl, by decide +kernel, kloRX11, kkoRX11, (fun h => by cases h), ⟨_, _, rfl⟩⟩
set_option maxRecDepth 100000 in
theorem k_ok71 : k_ok 71 := ⟨(yX11_beginsAnew, cX11_beginsAnew, 2, none), (kc_X11_beginsAnew, 2, 0, 0), klRX11, kkRX11, false, rfl, rfl, by decide +kernel, rfl, rfl, by decide +kernel, kloRX11, kkoRX11, (fun h => by cases h), ⟨_, _, rfl⟩⟩
set_option maxRecDepth 100000 in
theorem k_ok155 : k_ok 155 := ⟨(yX0_init, cX0_init, 1, none), (kc_X0_init, 1, 0, 0), klRX0, kkRX0, true, rfl, rfl, by decide +kernel, rfl, rfl, by decide +kernel, kloRX0, kkoRX0, fun _ => rfl, ⟨_, _, rfl⟩⟩
set_option maxRecDepth 100000 in
theorem k_ok160 : k_ok 160 := ⟨(yX1_init, cX1_init, 1, none), (kc_X1_init, 1, 3, 328), klRX1, kkRX1, true, rfl, rfl, by decide +kernel, rfl, rfl, by decide +kernel, kloRX1, kkoRX1, fun _ => rfl, ⟨_, _, rfl⟩⟩
set_option maxRecDepth 100000 in
theorem k_ok162 : k_ok 162 := ⟨(yX1_writeDefault, cX1_writeDefault, 1, none), (kc_X1_writeDefault, 1, 0, 0), klRX1, kkRX1, false, rfl, rfl, by decide +kernel, rfl, rfl, by decide +kernel, kloRX1, kkoRX1, (fun h => by cases h), ⟨_, _, rfl⟩⟩
set_option maxRecDepth 100000 in
theorem k_ok163 : k_ok 163 := ⟨(yX1_write, cX1_write, 2, none), (kc_X1_write, 2, 0, 0), klRX1, kkRX1, false, rfl, rfl, by decide +kernel, rfl, rfl, by decide +kernel, kloRX1, kkoRX1, (fun h => by cases h), ⟨_, _, rfl⟩⟩
set_option maxRecDepth 100000 in
theorem k_ok176 : k_ok 176 := ⟨(yX2_init, cX2_init, 2, none), (kc_X2_init, 2, 35, 170), klRX2, kkRX2, true, rfl, rfl, by decide +kernel, rfl, rfl, by decide +kernel, kloRX2, kkoRX2, fun _ => rfl, ⟨_, _, rfl⟩⟩
set_option maxRecDepth 100000 in
theorem k_ok180 : k_ok 180 := ⟨(yX3_init, cX3_init, 1, none), (kc_X3_init, 1, 1, 6), klRX3, kkRX3, true, rfl, rfl, by decide +kernel, rfl, rfl, by decide +kernel, kloRX3, kkoRX3, fun _ => rfl, ⟨_, _, rfl⟩⟩
set_option maxRecDepth 100000 in
theorem k_ok187 : k_ok 187 := ⟨(yX4_init, cX4_init, 1, none), (kc_X4_init, 1, 1, 600), klRX4, kkRX4, true, rfl, rfl, by decide +kernel, rfl, rfl, by decide +kernel, kloRX4, kkoRX4, fun _ => rfl, ⟨_, _, rfl⟩⟩
set_option maxRecDepth 100000 in
theorem k_ok202 : k_ok 202 := ⟨(yX5_init, cX5_init, 1, none), (kc_X5_init, 1, 12, 72824), klRX5, kkRX5, true, rfl, rfl, by decide +kernel, rfl, rfl, by decide +kernel, kloRX5, kkoRX5, fun _ => rfl, ⟨_, _, rfl⟩⟩
set_option maxRecDepth 100000 in
theorem k_ok211 : k_ok 211 := ⟨(yX6_init, cX6_init, 1, none), (kc_X6_init, 1, 1, 12), klRX6, kkRX6, true, rfl, rfl, by decide +kernel, rfl, rfl, by decide +kernel, kloRX6, kkoRX6, fun _ => rfl, ⟨_, _, rfl⟩⟩
set_option maxRecDepth 100000 in
theorem k_ok233 : k_ok 233 := ⟨(yX8_init, cX8_init, 1, none), (kc_X8_init, 1, 5, 750), klRX8, kkRX8, true, rfl, rfl, by decide +kernel, rfl, rfl, by decide +kernel, kloRX8, kkoRX8, fun _ => rfl, ⟨_, _, rfl⟩⟩
set_option maxRecDepth 100000 in
theorem k_ok247 : k_ok 247 := ⟨(yX9_init, cX9_init, 1, none), (kc_X9_init, 1, 8, 45), klRX9, kkRX9, true, rfl, rfl, by decide +kernel, rfl, rfl, by decide +kernel, kloRX9, kkoRX9, fun _ => rfl, ⟨_, _, rfl⟩⟩
theorem k_oks : ∀ k M, k_mt k = some M → k_ok k := by
  intro k M h
  unfold k_mt at h
  split at h
  · exact k_ok0
  · exact k_ok42
  · exact k_ok43
  · exact k_ok69
  · exact k_ok71
  · exact k_ok155
  · exact k_ok160
  · exact k_ok162
  · exact k_ok163
  · exact k_ok176
  · exact k_ok180
  · exact k_ok187
  · exact k_ok202
  · exact k_ok211
  · exact k_ok233
  · exact k_ok247
  · cases h
