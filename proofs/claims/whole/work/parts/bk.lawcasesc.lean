section LC9
variable {p : Program} {l : Launch} {e : Env} {s : State} {m : MethodId} {below : List Frame} {meth : Method} {c : Code} {b L : Nat} {xs : Nat → Int32} {G : qG} {H : Heap} {locs : List Loc} {cells slots : Nat} {arr : Array Slot} {S : qSt} {i : Nat}
set_option maxRecDepth 100000 in
set_option maxHeartbeats 2000000 in
theorem l_case24 (C : LM p s m meth c b L xs G) (hl9 : l.stackTraces = false) (hi : i + 9 ≤ L) {t B : Nat} {a : AS} (hBS : BS S t a B) (ht : t + 25 < 65536) (hB : B + 200 ≤ 2 ^ 20) (hH : q_H G S H) (hS : va_S (l_A s) s.heap H locs) (hl : lv_has arr 7 (l_lv b G i)) (hc : cells + 1 ≤ 601024) (hsl : slots + 6 ≤ 7293034) (kk : LKK p l e s m below meth c b G i cells slots t B) : W p l e room_1 s m #[Value.ref b] below meth c H locs cells slots (lw_Z below #[Value.ref b] s) (F0 m 1716 arr []) := by
  have hcc : ∀ k, (sp_spare a (xs (i + 1))).1 = .inl k → k = 1 := spI_c (fun k h => by cases h)
  refine l_patA (n := 1) (iW := 189) (iM := 191) (q := qL_spare) (hh := hL_spare) (r := sp_spare a (xs (i + 1))) (B := B) (t := t) (a := a) (g := gI) C hi (by decide) (by decide +kernel) (q_TB_in (q_mt6 (List.mem_of_getElem? (i := 20) rfl)) rfl) (q_TB_in (q_mt6 (List.mem_of_getElem? (i := 21) rfl)) rfl) hwL_spare l_ini ⟨by decide, by decide, by decide +kernel⟩ (by decide) l_cpM24 (by decide +kernel) l_cpT (wL_spare l (a_spare l hl9 hBS.1 hBS.2.2.1 ht (xs (i + 1))) hcc) (fun S9 h => r_spare l h hBS.2.2.1 (xs (i + 1))) (IV_sp_spare hBS.2.2 (xs (i + 1))) (Nat.le_add_right _ _) (spC_1 hcc).1 hBS hH hS hl hc hsl ?_
  intro H1 locs1 arr1 S1 t1 hH1 hS1 hl1 h5 h6 hBS1 ht1 hgv
  exact l_endE (off := (401)) C (by decide +kernel) (by decide +kernel) (by decide +kernel) (spC_1 hcc).1 (spC_1 hcc).2 hH1 hl1 h5 h6 hgv (kk H1 locs1 arr1 S1 t1 _ _ hH1 hS1 hl1 hBS1 ht1 (Nat.le_add_right _ _))
set_option maxRecDepth 100000 in
set_option maxHeartbeats 2000000 in
theorem l_case25 (C : LM p s m meth c b L xs G) (hl9 : l.stackTraces = false) (hi : i + 9 ≤ L) {t B : Nat} {a : AS} (hBS : BS S t a B) (ht : t + 25 < 65536) (hB : B + 200 ≤ 2 ^ 20) (hH : q_H G S H) (hS : va_S (l_A s) s.heap H locs) (hl : lv_has arr 7 (l_lv b G i)) (hc : cells + 1 ≤ 601024) (hsl : slots + 6 ≤ 7293034) (kk : LKK p l e s m below meth c b G i cells slots t B) : W p l e room_1 s m #[Value.ref b] below meth c H locs cells slots (lw_Z below #[Value.ref b] s) (F0 m 1772 arr []) := by
  have hcc : ∀ k, (sp_next a (xs (i + 1))).1 = .inl k → k = 1 := spI_c (fun k h => by cases h)
  refine l_patA (n := 1) (iW := 192) (iM := 194) (q := qL_next) (hh := hL_next) (r := sp_next a (xs (i + 1))) (B := B) (t := t) (a := a) (g := gI) C hi (by decide) (by decide +kernel) (q_TB_in (q_mt6 (List.mem_of_getElem? (i := 27) rfl)) rfl) (q_TB_in (q_mt6 (List.mem_of_getElem? (i := 28) rfl)) rfl) hwL_next l_ini ⟨by decide, by decide, by decide +kernel⟩ (by decide) l_cpM25 (by decide +kernel) l_cpT (wL_next l (a_next l hl9 hBS.1 hBS.2.2.1 ht (xs (i + 1))) hcc) (fun S9 h => r_next l h hBS.2.2.1 (xs (i + 1))) (IV_sp_next hBS.2.2 (xs (i + 1))) (Nat.le_add_right _ _) (spC_1 hcc).1 hBS hH hS hl hc hsl ?_
  intro H1 locs1 arr1 S1 t1 hH1 hS1 hl1 h5 h6 hBS1 ht1 hgv
  exact l_endE (off := (345)) C (by decide +kernel) (by decide +kernel) (by decide +kernel) (spC_1 hcc).1 (spC_1 hcc).2 hH1 hl1 h5 h6 hgv (kk H1 locs1 arr1 S1 t1 _ _ hH1 hS1 hl1 hBS1 ht1 (Nat.le_add_right _ _))
set_option maxRecDepth 100000 in
set_option maxHeartbeats 2000000 in
theorem l_case26 (C : LM p s m meth c b L xs G) (hl9 : l.stackTraces = false) (hi : i + 9 ≤ L) {t B : Nat} {a : AS} (hBS : BS S t a B) (ht : t + 25 < 65536) (hB : B + 200 ≤ 2 ^ 20) (hH : q_H G S H) (hS : va_S (l_A s) s.heap H locs) (hl : lv_has arr 7 (l_lv b G i)) (hc : cells + 1 ≤ 601024) (hsl : slots + 6 ≤ 7293034) (kk : LKK p l e s m below meth c b G i cells slots t B) : W p l e room_1 s m #[Value.ref b] below meth c H locs cells slots (lw_Z below #[Value.ref b] s) (F0 m 1828 arr []) := by
  have hcc : ∀ k, (sp_most a (xs (i + 1))).1 = .inl k → k = 1 := spI_c (fun k h => by cases h)
  refine l_patA (n := 1) (iW := 195) (iM := 197) (q := qL_most) (hh := hL_most) (r := sp_most a (xs (i + 1))) (B := B) (t := t) (a := a) (g := gI) C hi (by decide) (by decide +kernel) (q_TB_in (q_mt6 (List.mem_of_getElem? (i := 35) rfl)) rfl) (q_TB_in (q_mt6 (List.mem_of_getElem? (i := 36) rfl)) rfl) hwL_most l_ini ⟨by decide, by decide, by decide +kernel⟩ (by decide) l_cpM26 (by decide +kernel) l_cpT (wL_most l (a_most l hl9 hBS.1 hBS.2.2.1 ht (xs (i + 1))) hcc) (fun S9 h => r_most l h hBS.2.2.1 (xs (i + 1))) (IV_sp_most hBS.2.2 (xs (i + 1))) (Nat.le_add_right _ _) (spC_1 hcc).1 hBS hH hS hl hc hsl ?_
  intro H1 locs1 arr1 S1 t1 hH1 hS1 hl1 h5 h6 hBS1 ht1 hgv
  exact l_endE (off := (289)) C (by decide +kernel) (by decide +kernel) (by decide +kernel) (spC_1 hcc).1 (spC_1 hcc).2 hH1 hl1 h5 h6 hgv (kk H1 locs1 arr1 S1 t1 _ _ hH1 hS1 hl1 hBS1 ht1 (Nat.le_add_right _ _))
set_option maxRecDepth 100000 in
set_option maxHeartbeats 2000000 in
theorem l_case27 (C : LM p s m meth c b L xs G) (hl9 : l.stackTraces = false) (hi : i + 9 ≤ L) {t B : Nat} {a : AS} (hBS : BS S t a B) (ht : t + 25 < 65536) (hB : B + 200 ≤ 2 ^ 20) (hH : q_H G S H) (hS : va_S (l_A s) s.heap H locs) (hl : lv_has arr 7 (l_lv b G i)) (hc : cells + 1 ≤ 601024) (hsl : slots + 6 ≤ 7293034) (kk : LKK p l e s m below meth c b G i cells slots t B) : W p l e room_1 s m #[Value.ref b] below meth c H locs cells slots (lw_Z below #[Value.ref b] s) (F0 m 1884 arr []) := by
  have hcc : ∀ k, (sp_days a (xs (i + 1)) (xs (i + 2)) (xs (i + 3)) (xs (i + 4))).1 = .inl k → k = 1 := spI_c (fun k h => by cases h)
  refine l_patA (n := 4) (iW := 198) (iM := 200) (q := qL_days) (hh := hL_days) (r := sp_days a (xs (i + 1)) (xs (i + 2)) (xs (i + 3)) (xs (i + 4))) (B := B) (t := t) (a := a) (g := gI) C hi (by decide) (by decide +kernel) (q_TB_in (q_mt6 (List.mem_of_getElem? (i := 42) rfl)) rfl) (q_TB_in (q_mt6 (List.mem_of_getElem? (i := 43) rfl)) rfl) hwL_days l_ini ⟨by decide, by decide, by decide +kernel⟩ (by decide) l_cpM27 (by decide +kernel) l_cpT (wL_days l (a_days l hl9 hBS.1 hBS.2.2.1 ht (xs (i + 1)) (xs (i + 2)) (xs (i + 3)) (xs (i + 4))) hcc) (fun S9 h => r_days l h hBS.2.2.1 (xs (i + 1)) (xs (i + 2)) (xs (i + 3)) (xs (i + 4))) (IV_sp_days hBS.2.2 (xs (i + 1)) (xs (i + 2)) (xs (i + 3)) (xs (i + 4))) (Nat.le_add_right _ _) (spC_1 hcc).1 hBS hH hS hl hc hsl ?_
  intro H1 locs1 arr1 S1 t1 hH1 hS1 hl1 h5 h6 hBS1 ht1 hgv
  exact l_endE (off := (197)) C (by decide +kernel) (by decide +kernel) (by decide +kernel) (spC_1 hcc).1 (spC_1 hcc).2 hH1 hl1 h5 h6 hgv (kk H1 locs1 arr1 S1 t1 _ _ hH1 hS1 hl1 hBS1 ht1 (Nat.le_add_right _ _))
set_option maxRecDepth 100000 in
set_option maxHeartbeats 2000000 in
theorem l_case28 (C : LM p s m meth c b L xs G) (hl9 : l.stackTraces = false) (hi : i + 9 ≤ L) {t B : Nat} {a : AS} (hBS : BS S t a B) (ht : t + 25 < 65536) (hB : B + 200 ≤ 2 ^ 20) (hH : q_H G S H) (hS : va_S (l_A s) s.heap H locs) (hl : lv_has arr 7 (l_lv b G i)) (hc : cells + 1 ≤ 601024) (hsl : slots + 6 ≤ 7293034) (kk : LKK p l e s m below meth c b G i cells slots t B) : W p l e room_1 s m #[Value.ref b] below meth c H locs cells slots (lw_Z below #[Value.ref b] s) (F0 m 1976 arr []) := by
  have hcc : ∀ k, (sp_span a (xs (i + 1)) (xs (i + 2)) (xs (i + 3)) (xs (i + 4)) (xs (i + 5)) (xs (i + 6))).1 = .inl k → k = 1 := spI_c (fun k h => by cases h)
  refine l_patA (n := 6) (iW := 201) (iM := 204) (q := qL_span) (hh := hL_span) (r := sp_span a (xs (i + 1)) (xs (i + 2)) (xs (i + 3)) (xs (i + 4)) (xs (i + 5)) (xs (i + 6))) (B := B) (t := t) (a := a) (g := gI) C hi (by decide) (by decide +kernel) (q_TB_in (q_mt6 (List.mem_of_getElem? (i := 70) rfl)) rfl) (q_TB_in (q_mt6 (List.mem_of_getElem? (i := 71) rfl)) rfl) hwL_span l_ini ⟨by decide, by decide, by decide +kernel⟩ (by decide) l_cpM28 (by decide +kernel) l_cpT (wL_span l (a_span l hl9 hBS.1 hBS.2.2.1 ht (xs (i + 1)) (xs (i + 2)) (xs (i + 3)) (xs (i + 4)) (xs (i + 5)) (xs (i + 6))) hcc) (fun S9 h => r_span l h hBS.2.2.1 (xs (i + 1)) (xs (i + 2)) (xs (i + 3)) (xs (i + 4)) (xs (i + 5)) (xs (i + 6))) (IV_sp_span hBS.2.2 (xs (i + 1)) (xs (i + 2)) (xs (i + 3)) (xs (i + 4)) (xs (i + 5)) (xs (i + 6))) (Nat.le_add_right _ _) (spC_1 hcc).1 hBS hH hS hl hc hsl ?_
  intro H1 locs1 arr1 S1 t1 hH1 hS1 hl1 h5 h6 hBS1 ht1 hgv
  exact l_endE (off := (79)) C (by decide +kernel) (by decide +kernel) (by decide +kernel) (spC_1 hcc).1 (spC_1 hcc).2 hH1 hl1 h5 h6 hgv (kk H1 locs1 arr1 S1 t1 _ _ hH1 hS1 hl1 hBS1 ht1 (Nat.le_add_right _ _))
set_option maxRecDepth 100000 in
set_option maxHeartbeats 2000000 in
theorem l_case29 (C : LM p s m meth c b L xs G) (hl9 : l.stackTraces = false) (hi : i + 9 ≤ L) {t B : Nat} {a : AS} (hBS : BS S t a B) (ht : t + 25 < 65536) (hB : B + 200 ≤ 2 ^ 20) (hH : q_H G S H) (hS : va_S (l_A s) s.heap H locs) (hl : lv_has arr 7 (l_lv b G i)) (hc : cells + 1 ≤ 601024) (hsl : slots + 6 ≤ 7293034) (kk : LKK p l e s m below meth c b G i cells slots t B) : W p l e room_1 s m #[Value.ref b] below meth c H locs cells slots (lw_Z below #[Value.ref b] s) (F0 m 2094 arr []) := by
  have hcc : ∀ k, (sp_image a).1 ≠ .inl k := by
    intro k h
    unfold sp_image at h
    split at h <;> cases h
  exact l_patB (off := (68)) (n := 0) (iX := 205) (iM := 208) (r := sp_image a) (B := B) (t := t) (a := a) C hi (by decide) (by decide +kernel) (by decide +kernel) l_cpX29 (by decide +kernel) l_cpM29 (by decide +kernel) (sp_inr hcc) (a_image l hBS.1 hBS.2.2.1 ) (fun S9 h => r_image l h hBS.2.2.1 ) (IV_image hBS.2.2 ) (Nat.le_add_right _ _) hBS hH hS hl hc hsl kk
set_option maxRecDepth 100000 in
set_option maxHeartbeats 2000000 in
theorem l_case30 (C : LM p s m meth c b L xs G) (hl9 : l.stackTraces = false) (hi : i + 9 ≤ L) {t B : Nat} {a : AS} (hBS : BS S t a B) (ht : t + 25 < 65536) (hB : B + 200 ≤ 2 ^ 20) (hH : q_H G S H) (hS : va_S (l_A s) s.heap H locs) (hl : lv_has arr 7 (l_lv b G i)) (hc : cells + 1 ≤ 601024) (hsl : slots + 6 ≤ 7293034) (kk : LKK p l e s m below meth c b G i cells slots t B) : W p l e room_1 s m #[Value.ref b] below meth c H locs cells slots (lw_Z below #[Value.ref b] s) (F0 m 2107 arr []) := by
  have hcc : ∀ k, (sp_rest a).1 ≠ .inl k := by
    intro k h
    unfold sp_rest at h
    split at h <;> cases h
  exact l_patB (off := (55)) (n := 0) (iX := 209) (iM := 212) (r := sp_rest a) (B := B) (t := t) (a := a) C hi (by decide) (by decide +kernel) (by decide +kernel) l_cpX30 (by decide +kernel) l_cpM30 (by decide +kernel) (sp_inr hcc) (a_restore l hBS.1 hBS.2.2.1 ) (fun S9 h => r_restore l h hBS.2.2.1 ) (IV_rest hBS.2.2 ) (Nat.le_add_right _ _) hBS hH hS hl hc hsl kk
set_option maxRecDepth 100000 in
set_option maxHeartbeats 2000000 in
theorem l_case31 (C : LM p s m meth c b L xs G) (hl9 : l.stackTraces = false) (hi : i + 9 ≤ L) {t B : Nat} {a : AS} (hBS : BS S t a B) (ht : t + 25 < 65536) (hB : B + 200 ≤ 2 ^ 20) (hH : q_H G S H) (hS : va_S (l_A s) s.heap H locs) (hl : lv_has arr 7 (l_lv b G i)) (hc : cells + 1 ≤ 601024) (hsl : slots + 6 ≤ 7293034) (kk : LKK p l e s m below meth c b G i cells slots t B) : W p l e room_1 s m #[Value.ref b] below meth c H locs cells slots (lw_Z below #[Value.ref b] s) (F0 m 2120 arr []) := by
  have hcc : ∀ k, (sp_stat a (xs (i + 1))).1 ≠ .inl k := fun k h => by cases h
  exact l_patB (off := (30)) (n := 1) (iX := 213) (iM := 216) (r := sp_stat a (xs (i + 1))) (B := B) (t := t) (a := a) C hi (by decide) (by decide +kernel) (by decide +kernel) l_cpX31 (by decide +kernel) l_cpM31 (by decide +kernel) (sp_inr hcc) (a_status l hBS.1 (xs (i + 1))) (fun S9 h => r_status l h hBS.2.2.1 (xs (i + 1))) (IV_sp_stat hBS.2.2 (xs (i + 1))) (Nat.le_add_right _ _) hBS hH hS hl hc hsl kk
set_option maxRecDepth 100000 in
set_option maxHeartbeats 2000000 in
theorem l_case32 (C : LM p s m meth c b L xs G) (hl9 : l.stackTraces = false) (hi : i + 9 ≤ L) {t B : Nat} {a : AS} (hBS : BS S t a B) (ht : t + 25 < 65536) (hB : B + 200 ≤ 2 ^ 20) (hH : q_H G S H) (hS : va_S (l_A s) s.heap H locs) (hl : lv_has arr 7 (l_lv b G i)) (hc : cells + 1 ≤ 601024) (hsl : slots + 6 ≤ 7293034) (kk : LKK p l e s m below meth c b G i cells slots t B) : W p l e room_1 s m #[Value.ref b] below meth c H locs cells slots (lw_Z below #[Value.ref b] s) (F0 m 2145 arr []) := by
  have hcc : ∀ k, (sp_cnt a (xs (i + 1))).1 ≠ .inl k := fun k h => by cases h
  exact l_patB (off := (5)) (n := 1) (iX := 217) (iM := 220) (r := sp_cnt a (xs (i + 1))) (B := B) (t := t) (a := a) C hi (by decide) (by decide +kernel) (by decide +kernel) l_cpX32 (by decide +kernel) l_cpM32 (by decide +kernel) (sp_inr hcc) (a_count l hBS.1 (xs (i + 1))) (fun S9 h => r_count l h hBS.2.2.1 (xs (i + 1))) (IV_sp_cnt hBS.2.2 (xs (i + 1))) (Nat.le_add_right _ _) hBS hH hS hl hc hsl kk
end LC9
