theorem q_pv1 {i : Nat} {q : MethodName × Nat} (hq : lw_privs_1[i]? = some q) : Cond.selects q.1.cls q.1 q.1 ∈ lw_tbl := by
  have h := List.mem_of_getElem? hq
  exact List.mem_append_left _ (List.mem_map.mpr ⟨q, List.mem_append_left _ h, rfl⟩)
theorem q_pv2 {i : Nat} {q : MethodName × Nat} (hq : lw_privs_2[i]? = some q) : Cond.selects q.1.cls q.1 q.1 ∈ lw_tbl := by
  have h := List.mem_of_getElem? hq
  exact List.mem_append_left _ (List.mem_map.mpr ⟨q, List.mem_append_right _ (List.mem_append_left _ h), rfl⟩)
theorem q_pv3 {i : Nat} {q : MethodName × Nat} (hq : lw_privs_3[i]? = some q) : Cond.selects q.1.cls q.1 q.1 ∈ lw_tbl := by
  have h := List.mem_of_getElem? hq
  exact List.mem_append_left _ (List.mem_map.mpr ⟨q, List.mem_append_right _ (List.mem_append_right _ (List.mem_append_left _ h)), rfl⟩)
theorem q_pv4 {i : Nat} {q : MethodName × Nat} (hq : lw_privs_4[i]? = some q) : Cond.selects q.1.cls q.1 q.1 ∈ lw_tbl := by
  have h := List.mem_of_getElem? hq
  exact List.mem_append_left _ (List.mem_map.mpr ⟨q, List.mem_append_right _ (List.mem_append_right _ (List.mem_append_right _ (List.mem_append_left _ h))), rfl⟩)
theorem q_pv5 {i : Nat} {q : MethodName × Nat} (hq : lw_privs_5[i]? = some q) : Cond.selects q.1.cls q.1 q.1 ∈ lw_tbl := by
  have h := List.mem_of_getElem? hq
  exact List.mem_append_left _ (List.mem_map.mpr ⟨q, List.mem_append_right _ (List.mem_append_right _ (List.mem_append_right _ (List.mem_append_right _ (List.mem_append_left _ h)))), rfl⟩)
theorem q_pv6 {i : Nat} {q : MethodName × Nat} (hq : lw_privs_6[i]? = some q) : Cond.selects q.1.cls q.1 q.1 ∈ lw_tbl := by
  have h := List.mem_of_getElem? hq
  exact List.mem_append_left _ (List.mem_map.mpr ⟨q, List.mem_append_right _ (List.mem_append_right _ (List.mem_append_right _ (List.mem_append_right _ (List.mem_append_right _ (List.mem_append_left _ h))))), rfl⟩)
theorem q_pv7 {i : Nat} {q : MethodName × Nat} (hq : lw_privs_7[i]? = some q) : Cond.selects q.1.cls q.1 q.1 ∈ lw_tbl := by
  have h := List.mem_of_getElem? hq
  exact List.mem_append_left _ (List.mem_map.mpr ⟨q, List.mem_append_right _ (List.mem_append_right _ (List.mem_append_right _ (List.mem_append_right _ (List.mem_append_right _ (List.mem_append_right _ (h)))))), rfl⟩)

def q_fkb (ty : Nat → FieldType) (fin : Nat → Bool) (ks : List (Nat × Nat × Nat × Nat)) : Bool := (List.range ks.length).all (fun j => match ks[j]? with
  | some (0, _) => decide (ty j = .int) && decide (fin j = false)
  | some (1, _) => decide (ty j = .long) && decide (fin j = false)
  | some (2, _) => decide (ty j = .boolean) && decide (fin j = false)
  | some (3, _) => true
  | some (4, _) => (match ty j with | .object _ => true | _ => false) && decide (fin j = false)
  | _ => false)
theorem q_fkk {ty : Nat → FieldType} {T : u_T} (f : Nat) (ks : List (Nat × Nat × Nat × Nat)) (h : q_fkb ty (fun j => (T j).2.2.2) ks = true) : ∀ j k, ks[j]? = some k → (k.1 = 0 → ty j = .int ∧ (T j).2.2.2 = false) ∧ (k.1 = 1 → ty j = .long ∧ (T j).2.2.2 = false) ∧ (k.1 = 2 → ty j = .boolean ∧ (T j).2.2.2 = false) ∧ (k.1 = 4 → (∃ n, ty j = .object n) ∧ (T j).2.2.2 = false) ∧ k.1 < 5 := by
  intro j k hk
  have hj := (List.getElem?_eq_some_iff.mp hk).1
  have h := List.all_eq_true.mp h j (List.mem_range.mpr hj)
  rw [hk] at h
  obtain ⟨a, k⟩ := k
  match a, h with
  | 0, h => simp only [Bool.and_eq_true, decide_eq_true_eq] at h; exact ⟨fun _ => h, (fun q => by cases q), (fun q => by cases q), (fun q => by cases q), by simp⟩
  | 1, h => simp only [Bool.and_eq_true, decide_eq_true_eq] at h; exact ⟨(fun q => by cases q), fun _ => h, (fun q => by cases q), (fun q => by cases q), by simp⟩
  | 2, h => simp only [Bool.and_eq_true, decide_eq_true_eq] at h; exact ⟨(fun q => by cases q), (fun q => by cases q), fun _ => h, (fun q => by cases q), by simp⟩
  | 3, h => exact ⟨(fun q => by cases q), (fun q => by cases q), (fun q => by cases q), (fun q => by cases q), by simp⟩
  | 4, h =>
    simp only [Bool.and_eq_true, decide_eq_true_eq] at h
    refine ⟨(fun q => by cases q), (fun q => by cases q), (fun q => by cases q), fun _ => ⟨?_, h.2⟩, by simp⟩
    cases ht : ty j with
    | object n => exact ⟨n, rfl⟩
    | _ => rw [ht] at h; exact absurd h.1 (by simp)
  | n + 5, h => cases h

theorem q_cw0 : ∀ w ∈ u_ws RX0 TX0 4, w ∈ q_TB := by
  intro w hw
  obtain ⟨k, hk, rfl⟩ := List.mem_map.mp hw
  have hk := List.mem_range.mp hk
  match k, hk with
  | 0, _ => exact q_TB_in (q_mt2 (List.mem_of_getElem? (i := 63) rfl)) rfl
  | 1, _ => exact q_TB_in (q_mt2 (List.mem_of_getElem? (i := 65) rfl)) rfl
  | 2, _ => exact q_TB_in (q_mt2 (List.mem_of_getElem? (i := 67) rfl)) rfl
  | 3, _ => exact q_TB_in (q_mt2 (List.mem_of_getElem? (i := 69) rfl)) rfl
  | k + 4, hk => exact absurd hk (by omega)
theorem q_cw1 : ∀ w ∈ u_ws RX1 TX1 4, w ∈ q_TB := by
  intro w hw
  obtain ⟨k, hk, rfl⟩ := List.mem_map.mp hw
  have hk := List.mem_range.mp hk
  match k, hk with
  | 0, _ => exact q_TB_in (q_mt1 (List.mem_of_getElem? (i := 140) rfl)) rfl
  | 1, _ => exact q_TB_in (q_mt1 (List.mem_of_getElem? (i := 142) rfl)) rfl
  | 2, _ => exact q_TB_in (q_mt1 (List.mem_of_getElem? (i := 144) rfl)) rfl
  | 3, _ => exact q_TB_in (q_mt1 (List.mem_of_getElem? (i := 146) rfl)) rfl
  | k + 4, hk => exact absurd hk (by omega)
theorem q_cw2 : ∀ w ∈ u_ws RX2 TX2 2, w ∈ q_TB := by
  intro w hw
  obtain ⟨k, hk, rfl⟩ := List.mem_map.mp hw
  have hk := List.mem_range.mp hk
  match k, hk with
  | 0, _ => exact q_TB_in (q_mt1 (List.mem_of_getElem? (i := 236) rfl)) rfl
  | 1, _ => exact q_TB_in (q_mt1 (List.mem_of_getElem? (i := 238) rfl)) rfl
  | k + 2, hk => exact absurd hk (by omega)
theorem q_cw3 : ∀ w ∈ u_ws RX3 TX3 3, w ∈ q_TB := by
  intro w hw
  obtain ⟨k, hk, rfl⟩ := List.mem_map.mp hw
  have hk := List.mem_range.mp hk
  match k, hk with
  | 0, _ => exact q_TB_in (q_mt1 (List.mem_of_getElem? (i := 226) rfl)) rfl
  | 1, _ => exact q_TB_in (q_mt1 (List.mem_of_getElem? (i := 228) rfl)) rfl
  | 2, _ => exact q_TB_in (q_mt1 (List.mem_of_getElem? (i := 230) rfl)) rfl
  | k + 3, hk => exact absurd hk (by omega)
theorem q_cw4 : ∀ w ∈ u_ws RX4 TX4 7, w ∈ q_TB := by
  intro w hw
  obtain ⟨k, hk, rfl⟩ := List.mem_map.mp hw
  have hk := List.mem_range.mp hk
  match k, hk with
  | 0, _ => exact q_TB_in (q_mt1 (List.mem_of_getElem? (i := 55) rfl)) rfl
  | 1, _ => exact q_TB_in (q_mt1 (List.mem_of_getElem? (i := 57) rfl)) rfl
  | 2, _ => exact q_TB_in (q_mt1 (List.mem_of_getElem? (i := 59) rfl)) rfl
  | 3, _ => exact q_TB_in (q_mt1 (List.mem_of_getElem? (i := 61) rfl)) rfl
  | 4, _ => exact q_TB_in (q_mt1 (List.mem_of_getElem? (i := 63) rfl)) rfl
  | 5, _ => exact q_TB_in (q_mt1 (List.mem_of_getElem? (i := 65) rfl)) rfl
  | 6, _ => exact q_TB_in (q_mt1 (List.mem_of_getElem? (i := 67) rfl)) rfl
  | k + 7, hk => exact absurd hk (by omega)
theorem q_cw5 : ∀ w ∈ u_ws RX5 TX5 12, w ∈ q_TB := by
  intro w hw
  obtain ⟨k, hk, rfl⟩ := List.mem_map.mp hw
  have hk := List.mem_range.mp hk
  match k, hk with
  | 0, _ => exact q_TB_in (q_mt2 (List.mem_of_getElem? (i := 24) rfl)) rfl
  | 1, _ => exact q_TB_in (q_mt2 (List.mem_of_getElem? (i := 26) rfl)) rfl
  | 2, _ => exact q_TB_in (q_mt2 (List.mem_of_getElem? (i := 28) rfl)) rfl
  | 3, _ => exact q_TB_in (q_mt2 (List.mem_of_getElem? (i := 30) rfl)) rfl
  | 4, _ => exact q_TB_in (q_mt2 (List.mem_of_getElem? (i := 32) rfl)) rfl
  | 5, _ => exact q_TB_in (q_mt2 (List.mem_of_getElem? (i := 34) rfl)) rfl
  | 6, _ => exact q_TB_in (q_mt2 (List.mem_of_getElem? (i := 36) rfl)) rfl
  | 7, _ => exact q_TB_in (q_mt2 (List.mem_of_getElem? (i := 38) rfl)) rfl
  | 8, _ => exact q_TB_in (q_mt2 (List.mem_of_getElem? (i := 40) rfl)) rfl
  | 9, _ => exact q_TB_in (q_mt2 (List.mem_of_getElem? (i := 42) rfl)) rfl
  | 10, _ => exact q_TB_in (q_mt2 (List.mem_of_getElem? (i := 44) rfl)) rfl
  | 11, _ => exact q_TB_in (q_mt2 (List.mem_of_getElem? (i := 46) rfl)) rfl
  | k + 12, hk => exact absurd hk (by omega)
theorem q_cw6 : ∀ w ∈ u_ws RX6 TX6 5, w ∈ q_TB := by
  intro w hw
  obtain ⟨k, hk, rfl⟩ := List.mem_map.mp hw
  have hk := List.mem_range.mp hk
  match k, hk with
  | 0, _ => exact q_TB_in (q_mt1 (List.mem_of_getElem? (i := 161) rfl)) rfl
  | 1, _ => exact q_TB_in (q_mt1 (List.mem_of_getElem? (i := 163) rfl)) rfl
  | 2, _ => exact q_TB_in (q_mt1 (List.mem_of_getElem? (i := 165) rfl)) rfl
  | 3, _ => exact q_TB_in (q_mt1 (List.mem_of_getElem? (i := 167) rfl)) rfl
  | 4, _ => exact q_TB_in (q_mt1 (List.mem_of_getElem? (i := 169) rfl)) rfl
  | k + 5, hk => exact absurd hk (by omega)
theorem q_cw8 : ∀ w ∈ u_ws RX8 TX8 8, w ∈ q_TB := by
  intro w hw
  obtain ⟨k, hk, rfl⟩ := List.mem_map.mp hw
  have hk := List.mem_range.mp hk
  match k, hk with
  | 0, _ => exact q_TB_in (q_mt1 (List.mem_of_getElem? (i := 188) rfl)) rfl
  | 1, _ => exact q_TB_in (q_mt1 (List.mem_of_getElem? (i := 190) rfl)) rfl
  | 2, _ => exact q_TB_in (q_mt1 (List.mem_of_getElem? (i := 192) rfl)) rfl
  | 3, _ => exact q_TB_in (q_mt1 (List.mem_of_getElem? (i := 194) rfl)) rfl
  | 4, _ => exact q_TB_in (q_mt1 (List.mem_of_getElem? (i := 196) rfl)) rfl
  | 5, _ => exact q_TB_in (q_mt1 (List.mem_of_getElem? (i := 198) rfl)) rfl
  | 6, _ => exact q_TB_in (q_mt1 (List.mem_of_getElem? (i := 200) rfl)) rfl
  | 7, _ => exact q_TB_in (q_mt1 (List.mem_of_getElem? (i := 202) rfl)) rfl
  | k + 8, hk => exact absurd hk (by omega)
theorem q_cw9 : ∀ w ∈ u_ws RX9 TX9 11, w ∈ q_TB := by
  intro w hw
  obtain ⟨k, hk, rfl⟩ := List.mem_map.mp hw
  have hk := List.mem_range.mp hk
  match k, hk with
  | 0, _ => exact q_TB_in (q_mt1 (List.mem_of_getElem? (i := 98) rfl)) rfl
  | 1, _ => exact q_TB_in (q_mt1 (List.mem_of_getElem? (i := 100) rfl)) rfl
  | 2, _ => exact q_TB_in (q_mt1 (List.mem_of_getElem? (i := 102) rfl)) rfl
  | 3, _ => exact q_TB_in (q_mt1 (List.mem_of_getElem? (i := 104) rfl)) rfl
  | 4, _ => exact q_TB_in (q_mt1 (List.mem_of_getElem? (i := 106) rfl)) rfl
  | 5, _ => exact q_TB_in (q_mt1 (List.mem_of_getElem? (i := 108) rfl)) rfl
  | 6, _ => exact q_TB_in (q_mt1 (List.mem_of_getElem? (i := 110) rfl)) rfl
  | 7, _ => exact q_TB_in (q_mt1 (List.mem_of_getElem? (i := 112) rfl)) rfl
  | 8, _ => exact q_TB_in (q_mt1 (List.mem_of_getElem? (i := 114) rfl)) rfl
  | 9, _ => exact q_TB_in (q_mt1 (List.mem_of_getElem? (i := 116) rfl)) rfl
  | 10, _ => exact q_TB_in (q_mt1 (List.mem_of_getElem? (i := 118) rfl)) rfl
  | k + 11, hk => exact absurd hk (by omega)
theorem q_cw10 : ∀ w ∈ u_ws RX10 TX10 16, w ∈ q_TB := by
  intro w hw
  obtain ⟨k, hk, rfl⟩ := List.mem_map.mp hw
  have hk := List.mem_range.mp hk
  match k, hk with
  | 0, _ => exact q_TB_in (q_mt2 (List.mem_of_getElem? (i := 88) rfl)) rfl
  | 1, _ => exact q_TB_in (q_mt2 (List.mem_of_getElem? (i := 90) rfl)) rfl
  | 2, _ => exact q_TB_in (q_mt2 (List.mem_of_getElem? (i := 92) rfl)) rfl
  | 3, _ => exact q_TB_in (q_mt2 (List.mem_of_getElem? (i := 94) rfl)) rfl
  | 4, _ => exact q_TB_in (q_mt2 (List.mem_of_getElem? (i := 96) rfl)) rfl
  | 5, _ => exact q_TB_in (q_mt2 (List.mem_of_getElem? (i := 98) rfl)) rfl
  | 6, _ => exact q_TB_in (q_mt2 (List.mem_of_getElem? (i := 100) rfl)) rfl
  | 7, _ => exact q_TB_in (q_mt2 (List.mem_of_getElem? (i := 102) rfl)) rfl
  | 8, _ => exact q_TB_in (q_mt2 (List.mem_of_getElem? (i := 104) rfl)) rfl
  | 9, _ => exact q_TB_in (q_mt2 (List.mem_of_getElem? (i := 106) rfl)) rfl
  | 10, _ => exact q_TB_in (q_mt2 (List.mem_of_getElem? (i := 108) rfl)) rfl
  | 11, _ => exact q_TB_in (q_mt2 (List.mem_of_getElem? (i := 110) rfl)) rfl
  | 12, _ => exact q_TB_in (q_mt2 (List.mem_of_getElem? (i := 112) rfl)) rfl
  | 13, _ => exact q_TB_in (q_mt2 (List.mem_of_getElem? (i := 114) rfl)) rfl
  | 14, _ => exact q_TB_in (q_mt2 (List.mem_of_getElem? (i := 116) rfl)) rfl
  | 15, _ => exact q_TB_in (q_mt2 (List.mem_of_getElem? (i := 118) rfl)) rfl
  | k + 16, hk => exact absurd hk (by omega)
theorem q_cw11 : ∀ w ∈ u_ws RX11 TX11 53, w ∈ q_TB := by
  intro w hw
  obtain ⟨k, hk, rfl⟩ := List.mem_map.mp hw
  have hk := List.mem_range.mp hk
  match k, hk with
  | 0, _ => exact q_TB_in (q_mt6 (List.mem_of_getElem? (i := 151) rfl)) rfl
  | 1, _ => exact q_TB_in (q_mt6 (List.mem_of_getElem? (i := 153) rfl)) rfl
  | 2, _ => exact q_TB_in (q_mt6 (List.mem_of_getElem? (i := 155) rfl)) rfl
  | 3, _ => exact q_TB_in (q_mt6 (List.mem_of_getElem? (i := 157) rfl)) rfl
  | 4, _ => exact q_TB_in (q_mt6 (List.mem_of_getElem? (i := 159) rfl)) rfl
  | 5, _ => exact q_TB_in (q_mt6 (List.mem_of_getElem? (i := 161) rfl)) rfl
  | 6, _ => exact q_TB_in (q_mt6 (List.mem_of_getElem? (i := 163) rfl)) rfl
  | 7, _ => exact q_TB_in (q_mt6 (List.mem_of_getElem? (i := 165) rfl)) rfl
  | 8, _ => exact q_TB_in (q_mt6 (List.mem_of_getElem? (i := 167) rfl)) rfl
  | 9, _ => exact q_TB_in (q_mt6 (List.mem_of_getElem? (i := 169) rfl)) rfl
  | 10, _ => exact q_TB_in (q_mt6 (List.mem_of_getElem? (i := 171) rfl)) rfl
  | 11, _ => exact q_TB_in (q_mt6 (List.mem_of_getElem? (i := 173) rfl)) rfl
  | 12, _ => exact q_TB_in (q_mt6 (List.mem_of_getElem? (i := 175) rfl)) rfl
  | 13, _ => exact q_TB_in (q_mt6 (List.mem_of_getElem? (i := 177) rfl)) rfl
  | 14, _ => exact q_TB_in (q_mt6 (List.mem_of_getElem? (i := 179) rfl)) rfl
  | 15, _ => exact q_TB_in (q_mt6 (List.mem_of_getElem? (i := 181) rfl)) rfl
  | 16, _ => exact q_TB_in (q_mt6 (List.mem_of_getElem? (i := 183) rfl)) rfl
  | 17, _ => exact q_TB_in (q_mt6 (List.mem_of_getElem? (i := 185) rfl)) rfl
  | 18, _ => exact q_TB_in (q_mt6 (List.mem_of_getElem? (i := 187) rfl)) rfl
  | 19, _ => exact q_TB_in (q_mt6 (List.mem_of_getElem? (i := 189) rfl)) rfl
  | 20, _ => exact q_TB_in (q_mt6 (List.mem_of_getElem? (i := 191) rfl)) rfl
  | 21, _ => exact q_TB_in (q_mt6 (List.mem_of_getElem? (i := 193) rfl)) rfl
  | 22, _ => exact q_TB_in (q_mt6 (List.mem_of_getElem? (i := 195) rfl)) rfl
  | 23, _ => exact q_TB_in (q_mt6 (List.mem_of_getElem? (i := 197) rfl)) rfl
  | 24, _ => exact q_TB_in (q_mt6 (List.mem_of_getElem? (i := 199) rfl)) rfl
  | 25, _ => exact q_TB_in (q_mt6 (List.mem_of_getElem? (i := 201) rfl)) rfl
  | 26, _ => exact q_TB_in (q_mt6 (List.mem_of_getElem? (i := 203) rfl)) rfl
  | 27, _ => exact q_TB_in (q_mt6 (List.mem_of_getElem? (i := 205) rfl)) rfl
  | 28, _ => exact q_TB_in (q_mt6 (List.mem_of_getElem? (i := 207) rfl)) rfl
  | 29, _ => exact q_TB_in (q_mt6 (List.mem_of_getElem? (i := 209) rfl)) rfl
  | 30, _ => exact q_TB_in (q_mt6 (List.mem_of_getElem? (i := 211) rfl)) rfl
  | 31, _ => exact q_TB_in (q_mt6 (List.mem_of_getElem? (i := 213) rfl)) rfl
  | 32, _ => exact q_TB_in (q_mt6 (List.mem_of_getElem? (i := 215) rfl)) rfl
  | 33, _ => exact q_TB_in (q_mt6 (List.mem_of_getElem? (i := 217) rfl)) rfl
  | 34, _ => exact q_TB_in (q_mt6 (List.mem_of_getElem? (i := 219) rfl)) rfl
  | 35, _ => exact q_TB_in (q_mt6 (List.mem_of_getElem? (i := 221) rfl)) rfl
  | 36, _ => exact q_TB_in (q_mt6 (List.mem_of_getElem? (i := 223) rfl)) rfl
  | 37, _ => exact q_TB_in (q_mt6 (List.mem_of_getElem? (i := 225) rfl)) rfl
  | 38, _ => exact q_TB_in (q_mt6 (List.mem_of_getElem? (i := 227) rfl)) rfl
  | 39, _ => exact q_TB_in (q_mt6 (List.mem_of_getElem? (i := 229) rfl)) rfl
  | 40, _ => exact q_TB_in (q_mt6 (List.mem_of_getElem? (i := 231) rfl)) rfl
  | 41, _ => exact q_TB_in (q_mt6 (List.mem_of_getElem? (i := 233) rfl)) rfl
  | 42, _ => exact q_TB_in (q_mt6 (List.mem_of_getElem? (i := 235) rfl)) rfl
  | 43, _ => exact q_TB_in (q_mt6 (List.mem_of_getElem? (i := 237) rfl)) rfl
  | 44, _ => exact q_TB_in (q_mt6 (List.mem_of_getElem? (i := 239) rfl)) rfl
  | 45, _ => exact q_TB_in (q_mt7 (List.mem_of_getElem? (i := 1) rfl)) rfl
  | 46, _ => exact q_TB_in (q_mt7 (List.mem_of_getElem? (i := 3) rfl)) rfl
  | 47, _ => exact q_TB_in (q_mt7 (List.mem_of_getElem? (i := 5) rfl)) rfl
  | 48, _ => exact q_TB_in (q_mt7 (List.mem_of_getElem? (i := 7) rfl)) rfl
  | 49, _ => exact q_TB_in (q_mt7 (List.mem_of_getElem? (i := 9) rfl)) rfl
  | 50, _ => exact q_TB_in (q_mt7 (List.mem_of_getElem? (i := 11) rfl)) rfl
  | 51, _ => exact q_TB_in (q_mt7 (List.mem_of_getElem? (i := 13) rfl)) rfl
  | 52, _ => exact q_TB_in (q_mt7 (List.mem_of_getElem? (i := 15) rfl)) rfl
  | k + 53, hk => exact absurd hk (by omega)
theorem q_fo0 : q_fo 0 := by
  intro q hq
  cases hq
  exact ⟨RX10, TX10, 16, tyX10, rfl, rfl, q_cw10, tyX10_ok, nmX10, by decide +kernel, q_fkk 0 _ (by decide +kernel)⟩
theorem q_fo1 : q_fo 1 := by
  intro q hq
  cases hq
  exact ⟨RX4, TX4, 7, tyX4, rfl, rfl, q_cw4, tyX4_ok, nmX4, by decide +kernel, q_fkk 1 _ (by decide +kernel)⟩
theorem q_fo3 : q_fo 3 := by
  intro q hq
  cases hq
  exact ⟨RX9, TX9, 11, tyX9, rfl, rfl, q_cw9, tyX9_ok, nmX9, by decide +kernel, q_fkk 3 _ (by decide +kernel)⟩
theorem q_fo12 : q_fo 12 := by
  intro q hq
  cases hq
  exact ⟨RX1, TX1, 4, tyX1, rfl, rfl, q_cw1, tyX1_ok, nmX1, by decide +kernel, q_fkk 12 _ (by decide +kernel)⟩
theorem q_fo16 : q_fo 16 := by
  intro q hq
  cases hq
  exact ⟨RX6, TX6, 5, tyX6, rfl, rfl, q_cw6, tyX6_ok, nmX6, by decide +kernel, q_fkk 16 _ (by decide +kernel)⟩
theorem q_fo18 : q_fo 18 := by
  intro q hq
  cases hq
  exact ⟨RX8, TX8, 8, tyX8, rfl, rfl, q_cw8, tyX8_ok, nmX8, by decide +kernel, q_fkk 18 _ (by decide +kernel)⟩
theorem q_fo24 : q_fo 24 := by
  intro q hq
  cases hq
  exact ⟨RX2, TX2, 2, tyX2, rfl, rfl, q_cw2, tyX2_ok, nmX2, by decide +kernel, q_fkk 24 _ (by decide +kernel)⟩
theorem q_fo26 : q_fo 26 := by
  intro q hq
  cases hq
  exact ⟨RX3, TX3, 3, tyX3, rfl, rfl, q_cw3, tyX3_ok, nmX3, by decide +kernel, q_fkk 26 _ (by decide +kernel)⟩
theorem q_fo29 : q_fo 29 := by
  intro q hq
  cases hq
  exact ⟨RX5, TX5, 12, tyX5, rfl, rfl, q_cw5, tyX5_ok, nmX5, by decide +kernel, q_fkk 29 _ (by decide +kernel)⟩
theorem q_fo33 : q_fo 33 := by
  intro q hq
  cases hq
  exact ⟨RX0, TX0, 4, tyX0, rfl, rfl, q_cw0, tyX0_ok, nmX0, by decide +kernel, q_fkk 33 _ (by decide +kernel)⟩
theorem q_fo40 : q_fo 40 := by
  intro q hq
  cases hq
  exact ⟨RX11, TX11, 53, tyX11, rfl, rfl, q_cw11, tyX11_ok, nmX11, by decide +kernel, q_fkk 40 _ (by decide +kernel)⟩
theorem q_fos : ∀ f, q_fo f := by
  refine q_all (fun f hf => ?_) (fun f hf q hq => by rw [q_big hf] at hq; cases hq)
  match f, hf with
  | 0, _ => exact q_fo0
  | 1, _ => exact q_fo1
  | 2, _ => exact fun q hq => nomatch hq
  | 3, _ => exact q_fo3
  | 4, _ => exact fun q hq => nomatch hq
  | 5, _ => exact fun q hq => nomatch hq
  | 6, _ => exact fun q hq => nomatch hq
  | 7, _ => exact fun q hq => nomatch hq
  | 8, _ => exact fun q hq => nomatch hq
  | 9, _ => exact fun q hq => nomatch hq
  | 10, _ => exact fun q hq => nomatch hq
  | 11, _ => exact fun q hq => nomatch hq
  | 12, _ => exact q_fo12
  | 13, _ => exact fun q hq => nomatch hq
  | 14, _ => exact fun q hq => nomatch hq
  | 15, _ => exact fun q hq => nomatch hq
  | 16, _ => exact q_fo16
  | 17, _ => exact fun q hq => nomatch hq
  | 18, _ => exact q_fo18
  | 19, _ => exact fun q hq => nomatch hq
  | 20, _ => exact fun q hq => nomatch hq
  | 21, _ => exact fun q hq => nomatch hq
  | 22, _ => exact fun q hq => nomatch hq
  | 23, _ => exact fun q hq => nomatch hq
  | 24, _ => exact q_fo24
  | 25, _ => exact fun q hq => nomatch hq
  | 26, _ => exact q_fo26
  | 27, _ => exact fun q hq => nomatch hq
  | 28, _ => exact fun q hq => nomatch hq
  | 29, _ => exact q_fo29
  | 30, _ => exact fun q hq => nomatch hq
  | 31, _ => exact fun q hq => nomatch hq
  | 32, _ => exact fun q hq => nomatch hq
  | 33, _ => exact q_fo33
  | 34, _ => exact fun q hq => nomatch hq
  | 35, _ => exact fun q hq => nomatch hq
  | 36, _ => exact fun q hq => nomatch hq
  | 37, _ => exact fun q hq => nomatch hq
  | 38, _ => exact fun q hq => nomatch hq
  | 39, _ => exact fun q hq => nomatch hq
  | 40, _ => exact q_fo40
  | 41, _ => exact fun q hq => nomatch hq
  | 42, _ => exact fun q hq => nomatch hq
  | 43, _ => exact fun q hq => nomatch hq
  | 44, _ => exact fun q hq => nomatch hq
  | 45, _ => exact fun q hq => nomatch hq
  | 46, _ => exact fun q hq => nomatch hq
  | 47, _ => exact fun q hq => nomatch hq
  | 48, _ => exact fun q hq => nomatch hq
  | 49, _ => exact fun q hq => nomatch hq
  | 50, _ => exact fun q hq => nomatch hq
  | 51, _ => exact fun q hq => nomatch hq
  | 52, _ => exact fun q hq => nomatch hq
  | 53, _ => exact fun q hq => nomatch hq
  | 54, _ => exact fun q hq => nomatch hq
  | 55, _ => exact fun q hq => nomatch hq
  | 56, _ => exact fun q hq => nomatch hq
  | 57, _ => exact fun q hq => nomatch hq
  | 58, _ => exact fun q hq => nomatch hq
  | 59, _ => exact fun q hq => nomatch hq
  | 60, _ => exact fun q hq => nomatch hq
  | 61, _ => exact fun q hq => nomatch hq
  | 62, _ => exact fun q hq => nomatch hq
  | 63, _ => exact fun q hq => nomatch hq
  | 64, _ => exact fun q hq => nomatch hq
  | 65, _ => exact fun q hq => nomatch hq
  | 66, _ => exact fun q hq => nomatch hq
  | 67, _ => exact fun q hq => nomatch hq
  | 68, _ => exact fun q hq => nomatch hq
  | 69, _ => exact fun q hq => nomatch hq
  | 70, _ => exact fun q hq => nomatch hq
  | 71, _ => exact fun q hq => nomatch hq
  | 72, _ => exact fun q hq => nomatch hq
  | 73, _ => exact fun q hq => nomatch hq
  | 74, _ => exact fun q hq => nomatch hq
  | 75, _ => exact fun q hq => nomatch hq
  | 76, _ => exact fun q hq => nomatch hq
  | 77, _ => exact fun q hq => nomatch hq
  | 78, _ => exact fun q hq => nomatch hq
  | 79, _ => exact fun q hq => nomatch hq
  | 80, _ => exact fun q hq => nomatch hq
  | f + 81, hf => exact absurd hf (by omega)
def q_mts : List qM := [(yX10_init, cX10_init, 2, none),
  (yX10_feed, cX10_feed, 6, (some .int)),
  (yX10_yard, cX10_yard, 3, (some .int)),
  (yX10_law, cX10_law, 3, (some .int)),
  (yX10_work, cX10_work, 2, (some .int)),
  (yX10_spots, cX10_spots, 3, (some .int)),
  (yX10_fault, cX10_fault, 1, (some .int)),
  (yX10_undo, cX10_undo, 1, (some .int)),
  (yX10_told, cX10_told, 3, (some .int)),
  (yX10_lane, cX10_lane, 5, (some .int)),
  (yX10_car, cX10_car, 4, (some .int)),
  (yX10_on, cX10_on, 3, (some .int)),
  (yX10_seconds, cX10_seconds, 3, (some .int)),
  (yX10_would, cX10_would, 9, (some .int)),
  (yX10_ahead, cX10_ahead, 2, (some .int)),
  (yX10_frees, cX10_frees, 6, (some .int)),
  (yX10_morning, cX10_morning, 3, (some .int)),
  (yX10_corner, cX10_corner, 5, (some .int)),
  (yX10_goes, cX10_goes, 2, (some .boolean)),
  (yX10_evening, cX10_evening, 4, (some .int)),
  (yX10_sure, cX10_sure, 8, (some .int)),
  (yX10_leaks, cX10_leaks, 2, (some .int)),
  (yX10_look, cX10_look, 3, (some .int)),
  (yX10_fronts, cX10_fronts, 10, (some .int)),
  (yX10_pays, cX10_pays, 6, (some .int)),
  (yX10_spare, cX10_spare, 4, (some .int)),
  (yX10_next, cX10_next, 5, (some .int)),
  (yX10_most, cX10_most, 6, (some .int)),
  (yX10_days, cX10_days, 5, (some .int)),
  (yX10_span, cX10_span, 12, (some .int)),
  (yX10_image, cX10_image, 1, (some .int)),
  (yX10_restore, cX10_restore, 1, (some .int)),
  (yX10_status, cX10_status, 2, (some .int)),
  (yX10_count, cX10_count, 2, (some .int)),
  (yX10_need, cX10_need, 2, none),
  (yX10_needLane, cX10_needLane, 2, none),
  (yX10_needCar, cX10_needCar, 2, none),
  (yX10_areCars, cX10_areCars, 2, (some .boolean)),
  (yX10_roomOfAll, cX10_roomOfAll, 5, (some .int)),
  (yX10_isWithin, cX10_isWithin, 3, (some .boolean)),
  (yX10_hasByBid, cX10_hasByBid, 4, (some .int)),
  (yX10_isBest, cX10_isBest, 7, (some .boolean)),
  (yX11_init, cX11_init, 1, none),
  (yX11_tellsNothing, cX11_tellsNothing, 2, none),
  (yX11_thrown, cX11_thrown, 1, (some .int)),
  (yX11_bad, cX11_bad, 4, (some .boolean)),
  (yX11_in, cX11_in, 3, (some .boolean)),
  (yX11_less, cX11_less, 2, (some .int)),
  (yX11_more, cX11_more, 2, (some .int)),
  (yX11_has, cX11_has, 2, (some .boolean)),
  (yX11_feed, cX11_feed, 8, (some .int)),
  (yX11_byteAt, cX11_byteAt, 2, (some .int)),
  (yX11_blanks, cX11_blanks, 1, none),
  (yX11_wrong, cX11_wrong, 3, none),
  (yX11_isDigit, cX11_isDigit, 1, (some .boolean)),
  (yX11_isSmall, cX11_isSmall, 1, (some .boolean)),
  (yX11_number, cX11_number, 5, (some .int)),
  (yX11_wordHere, cX11_wordHere, 3, (some .int)),
  (yX11_six, cX11_six, 7, (some .int)),
  (yX11_isWord, cX11_isWord, 7, (some .boolean)),
  (yX11_skipWord, cX11_skipWord, 1, none),
  (yX11_takes, cX11_takes, 8, (some .boolean)),
  (yX11_sign, cX11_sign, 2, none),
  (yX11_takesSign, cX11_takesSign, 3, (some .boolean)),
  (yX11_starts, cX11_starts, 2, none),
  (yX11_ends, cX11_ends, 1, (some .int)),
  (yX11_kindHere, cX11_kindHere, 1, (some .int)),
  (yX11_clause, cX11_clause, 4, none),
  (yX11_yard, cX11_yard, 2, (some .int)),
  (yX11_lays, cX11_lays, 5, none),
  (yX11_copies, cX11_copies, 3, none),
  (yX11_beginsAnew, cX11_beginsAnew, 2, none),
  (yX11_notes, cX11_notes, 3, none),
  (yX11_opensOne, cX11_opensOne, 1, (some .boolean)),
  (yX11_sum, cX11_sum, 2, none),
  (yX11_product, cX11_product, 2, none),
  (yX11_knownHere, cX11_knownHere, 1, (some .int)),
  (yX11_one, cX11_one, 3, none),
  (yX11_law, cX11_law, 2, (some .int)),
  (yX11_by, cX11_by, 3, (some .int)),
  (yX11_byLaw, cX11_byLaw, 3, (some .int)),
  (yX11_stepHere, cX11_stepHere, 1, (some .int)),
  (yX11_readsStep, cX11_readsStep, 3, none),
  (yX11_spots, cX11_spots, 8, (some .int)),
  (yX11_fault, cX11_fault, 1, (some .int)),
  (yX11_standing, cX11_standing, 3, (some .int)),
  (yX11_frontOf, cX11_frontOf, 2, (some .int)),
  (yX11_roomOf, cX11_roomOf, 5, (some .int)),
  (yX11_laneOf, cX11_laneOf, 5, (some .int)),
  (yX11_rankOf, cX11_rankOf, 5, (some .int)),
  (yX11_comesTo, cX11_comesTo, 4, none),
  (yX11_isLater, cX11_isLater, 3, (some .boolean)),
  (yX11_pairsIn, cX11_pairsIn, 6, (some .int)),
  (yX11_insideOf, cX11_insideOf, 5, (some .int)),
  (yX11_secondsOf, cX11_secondsOf, 5, (some .int)),
  (yX11_moves, cX11_moves, 6, (some .boolean)),
  (yX11_roomiest, cX11_roomiest, 4, (some .int)),
  (yX11_latestOut, cX11_latestOut, 6, (some .int)),
  (yX11_swaps, cX11_swaps, 6, (some .boolean)),
  (yX11_does, cX11_does, 4, (some .boolean)),
  (yX11_goesOn, cX11_goesOn, 5, none),
  (yX11_work, cX11_work, 2, (some .int)),
  (yX11_undo, cX11_undo, 1, (some .int)),
  (yX11_told, cX11_told, 4, (some .int)),
  (yX11_isLane, cX11_isLane, 2, (some .boolean)),
  (yX11_isCar, cX11_isCar, 2, (some .boolean)),
  (yX11_areCars, cX11_areCars, 2, (some .boolean)),
  (yX11_lane, cX11_lane, 5, (some .int)),
  (yX11_firstPlace, cX11_firstPlace, 5, (some .int)),
  (yX11_car, cX11_car, 3, (some .int)),
  (yX11_onPlace, cX11_onPlace, 4, (some .int)),
  (yX11_on, cX11_on, 3, (some .int)),
  (yX11_seconds, cX11_seconds, 3, (some .int)),
  (yX11_would, cX11_would, 9, (some .int)),
  (yX11_aheadOf, cX11_aheadOf, 5, (some .int)),
  (yX11_ahead, cX11_ahead, 2, (some .int)),
  (yX11_asNumber, cX11_asNumber, 6, (some .int)),
  (yX11_asRow, cX11_asRow, 7, none),
  (yX11_placeOf, cX11_placeOf, 9, (some .int)),
  (yX11_earliest, cX11_earliest, 5, (some .int)),
  (yX11_leaveAll, cX11_leaveAll, 3, none),
  (yX11_isGoal, cX11_isGoal, 3, (some .boolean)),
  (yX11_fewest, cX11_fewest, 15, (some .int)),
  (yX11_frees, cX11_frees, 4, (some .int)),
  (yX11_morning, cX11_morning, 3, (some .int)),
  (yX11_takesOut, cX11_takesOut, 5, none),
  (yX11_corner, cX11_corner, 3, (some .int)),
  (yX11_spare, cX11_spare, 5, (some .int)),
  (yX11_goes, cX11_goes, 5, (some .boolean)),
  (yX11_comeHome, cX11_comeHome, 6, none),
  (yX11_evening, cX11_evening, 4, (some .int)),
  (yX11_sure, cX11_sure, 9, (some .int)),
  (yX11_isOil, cX11_isOil, 5, (some .boolean)),
  (yX11_isLeak, cX11_isLeak, 3, (some .boolean)),
  (yX11_leaks, cX11_leaks, 6, (some .int)),
  (yX11_isTold, cX11_isTold, 4, (some .boolean)),
  (yX11_look, cX11_look, 9, (some .int)),
  (yX11_hasBy, cX11_hasBy, 4, (some .int)),
  (yX11_isBest, cX11_isBest, 6, (some .boolean)),
  (yX11_fronts, cX11_fronts, 10, (some .int)),
  (yX11_givenBy, cX11_givenBy, 5, (some .int)),
  (yX11_pays, cX11_pays, 5, (some .int)),
  (yX11_next, cX11_next, 3, (some .int)),
  (yX11_most, cX11_most, 5, (some .int)),
  (yX11_draw, cX11_draw, 2, (some .int)),
  (yX11_daysBy, cX11_daysBy, 7, none),
  (yX11_areDays, cX11_areDays, 2, (some .boolean)),
  (yX11_days, cX11_days, 5, (some .int)),
  (yX11_span, cX11_span, 12, (some .int)),
  (yX11_puts, cX11_puts, 4, (some .int)),
  (yX11_putsAll, cX11_putsAll, 5, none),
  (yX11_image, cX11_image, 1, (some .int)),
  (yX11_restore, cX11_restore, 1, (some .int)),
  (yX11_status, cX11_status, 2, (some .int)),
  (yX11_count, cX11_count, 2, (some .int)),
  (yX0_init, cX0_init, 1, none),
  (yX0_run, cX0_run, 10, none),
  (yX0_drawIll, cX0_drawIll, 3, (some .int)),
  (yX0_draw, cX0_draw, 2, (some .int)),
  (yX0_letLaneOut, cX0_letLaneOut, 5, none),
  (yX1_init, cX1_init, 1, none),
  (yX1_clear, cX1_clear, 1, none),
  (yX1_writeDefault, cX1_writeDefault, 1, none),
  (yX1_write, cX1_write, 2, none),
  (yX1_read, cX1_read, 2, none),
  (yX1_readSum, cX1_readSum, 5, none),
  (yX1_readProduct, cX1_readProduct, 5, none),
  (yX1_readUnit, cX1_readUnit, 4, none),
  (yX1_readBracket, cX1_readBracket, 3, none),
  (yX1_readTwo, cX1_readTwo, 4, none),
  (yX1_factOf, cX1_factOf, 1, (some .int)),
  (yX1_tellCar, cX1_tellCar, 5, none),
  (yX1_tellMove, cX1_tellMove, 5, none),
  (yX1_secondsNow, cX1_secondsNow, 7, (some .int)),
  (yX1_secondsTold, cX1_secondsTold, 4, (some .int)),
  (yX1_reckon, cX1_reckon, 3, (some .int)),
  (yX2_init, cX2_init, 2, none),
  (yX2_latest, cX2_latest, 1, (some (.object "BlockedCars$Position"))),
  (yX2_begin, cX2_begin, 1, none),
  (yX2_become, cX2_become, 3, none),
  (yX3_init, cX3_init, 1, none),
  (yX3_become, cX3_become, 2, none),
  (yX3_standsAs, cX3_standsAs, 4, (some .boolean)),
  (yX3_addMove, cX3_addMove, 2, none),
  (yX3_movesOf, cX3_movesOf, 2, (some .int)),
  (yX3_allMoves, cX3_allMoves, 3, (some .int)),
  (yX3_levelled, cX3_levelled, 5, (some .int)),
  (yX4_init, cX4_init, 1, none),
  (yX4_take, cX4_take, 3, none),
  (yX4_open, cX4_open, 2, none),
  (yX4_isSound, cX4_isSound, 1, (some .boolean)),
  (yX4_fail, cX4_fail, 3, none),
  (yX4_here, cX4_here, 1, (some .int)),
  (yX4_skipBlanks, cX4_skipBlanks, 1, none),
  (yX4_isAtEnd, cX4_isAtEnd, 1, (some .boolean)),
  (yX4_isDigitHere, cX4_isDigitHere, 2, (some .boolean)),
  (yX4_isNext, cX4_isNext, 2, (some .boolean)),
  (yX4_skipIf, cX4_skipIf, 2, (some .boolean)),
  (yX4_readSign, cX4_readSign, 2, none),
  (yX4_readNumber, cX4_readNumber, 5, (some .int)),
  (yX4_readWord, cX4_readWord, 1, none),
  (yX4_isWord, cX4_isWord, 3, (some .boolean)),
  (yX5_init, cX5_init, 1, none),
  (yX5_seek, cX5_seek, 10, (some .int)),
  (yX5_spread, cX5_spread, 6, none),
  (yX5_moveFrom, cX5_moveFrom, 11, none),
  (yX5_roomOf, cX5_roomOf, 4, (some .int)),
  (yX5_arrive, cX5_arrive, 5, none),
  (yX5_isReached, cX5_isReached, 3, (some .boolean)),
  (yX5_leastFrom, cX5_leastFrom, 3, (some .int)),
  (yX5_keep, cX5_keep, 8, none),
  (yX6_init, cX6_init, 1, none),
  (yX6_clear, cX6_clear, 1, none),
  (yX6_read, cX6_read, 4, none),
  (yX6_readLine, cX6_readLine, 7, none),
  (yX6_lookAt, cX6_lookAt, 7, none),
  (yX6_isRight, cX6_isRight, 4, (some .boolean)),
  (yX6_howManySets, cX6_howManySets, 3, (some .int)),
  (yX6_firstSet, cX6_firstSet, 2, (some .int)),
  (yX6_carsInAllSets, cX6_carsInAllSets, 3, (some .int)),
  (yX6_worstAt, cX6_worstAt, 6, (some .int)),
  (yX6_bestPlace, cX6_bestPlace, 5, (some .int)),
  (yX7_rowOf, cX7_rowOf, 3, (some .int)),
  (yX7_withRow, cX7_withRow, 5, (some .long)),
  (yX7_frontOf, cX7_frontOf, 3, (some .int)),
  (yX7_carAtWall, cX7_carAtWall, 5, (some .int)),
  (yX7_driveOut, cX7_driveOut, 3, (some .long)),
  (yX7_driveIn, cX7_driveIn, 4, (some .long)),
  (yX7_carsIn, cX7_carsIn, 5, (some .int)),
  (yX7_slotOf, cX7_slotOf, 4, (some .int)),
  (yX7_laneOf, cX7_laneOf, 4, (some .int)),
  (yX7_aheadOf, cX7_aheadOf, 5, (some .int)),
  (yX7_takeAway, cX7_takeAway, 8, (some .long)),
  (yX8_init, cX8_init, 1, none),
  (yX8_read, cX8_read, 3, none),
  (yX8_readSteps, cX8_readSteps, 5, none),
  (yX8_readStep, cX8_readStep, 6, none),
  (yX8_readLane, cX8_readLane, 2, (some .int)),
  (yX8_readAgain, cX8_readAgain, 5, none),
  (yX8_write, cX8_write, 5, none),
  (yX8_run, cX8_run, 7, none),
  (yX8_endRound, cX8_endRound, 3, (some .int)),
  (yX8_countStep, cX8_countStep, 2, none),
  (yX8_doStep, cX8_doStep, 5, (some .boolean)),
  (yX8_park, cX8_park, 4, (some .boolean)),
  (yX8_move, cX8_move, 9, (some .boolean)),
  (yX8_driveOff, cX8_driveOff, 2, (some .boolean)),
  (yX9_init, cX9_init, 1, none),
  (yX9_read, cX9_read, 3, none),
  (yX9_readClause, cX9_readClause, 4, none),
  (yX9_kindOf, cX9_kindOf, 1, (some .int)),
  (yX9_readLane, cX9_readLane, 3, none),
  (yX9_readCar, cX9_readCar, 5, none),
  (yX9_readKey, cX9_readKey, 4, none),
  (yX9_order, cX9_order, 5, none),
  (yX9_isSooner, cX9_isSooner, 3, (some .boolean)),
  (yX9_placesOf, cX9_placesOf, 2, (some .int)),
  (yX9_lengthOf, cX9_lengthOf, 2, (some .int)),
  (yX9_hourOf, cX9_hourOf, 2, (some .int)),
  (yX9_triesOf, cX9_triesOf, 2, (some .int)),
  (yX9_keysOf, cX9_keysOf, 2, (some .int)),
  (yX9_roomOf, cX9_roomOf, 6, (some .int)),
  (yX9_carOn, cX9_carOn, 10, (some .int)),
  (yX9_firstPlaceOf, cX9_firstPlaceOf, 6, (some .int)),
  (yX9_pairsOf, cX9_pairsOf, 3, (some .int)),
  (yX9_blockings, cX9_blockings, 8, (some .int)),
  (yX9_nextOut, cX9_nextOut, 5, (some .int)),
  (yX9_letOut, cX9_letOut, 7, (some .long)),
  (yX9_comeHome, cX9_comeHome, 8, (some .long)),
  (yX9_widestLane, cX9_widestLane, 5, (some .int)),
  (yX9_getsOutAlone, cX9_getsOutAlone, 11, (some .boolean)),
  (yX9_firstOtherLane, cX9_firstOtherLane, 6, (some .int)),
  (yX9_bestEvening, cX9_bestEvening, 6, (some .int)),
  (yX9_eveningBy, cX9_eveningBy, 9, (some .int)),
  (yJ6_bitCount_0f7a4, cJ6_bitCount_0f7a4, 1, (some .int)),
  (yJ9_max_7cf53, cJ9_max_7cf53, 2, (some .int)),
  (yJ9_min_7cf53, cJ9_min_7cf53, 2, (some .int)),
  (yJ0_charAt_5068e, cJ0_charAt_5068e, 2, (some .char)),
  (yJ0_checkIndex_df160, cJ0_checkIndex_df160, 2, none),
  (yJ0_coder_7d493, cJ0_coder_7d493, 1, (some .byte)),
  (yJ0_isLatin1_aae02, cJ0_isLatin1_aae02, 1, (some .boolean)),
  (yJ0_length_8abf5, cJ0_length_8abf5, 1, (some .int)),
  (yJ1_charAt_3b067, cJ1_charAt_3b067, 2, (some .char)),
  (yJ2_charAt_3b067, cJ2_charAt_3b067, 2, (some .char)),
  (yJ2_checkIndex_2214a, cJ2_checkIndex_2214a, 2, none),
  (yJ2_getChar_3b067, cJ2_getChar_3b067, 2, (some .char)),
  (yJ2_length_9d52b, cJ2_length_9d52b, 1, (some .int)),
  (yJ7_fill_53178, cJ7_fill_53178, 4, none),
  (yJ3_checkIndex_8e157, cJ3_checkIndex_8e157, 3, (some .int))]
def q_mt (k : Nat) : Option qM := q_mts[k]?
def kpRX10 : qK := ([(10, 0, 9, 0), (19, 0, 9, 1), (23, 0, 9, 2), (29, 0, 9, 3), (33, 0, 9, 4), (39, 0, 9, 5), (43, 0, 9, 6), (49, 0, 9, 7), (56, 0, 9, 8), (60, 0, 9, 9), (67, 0, 9, 10), (74, 0, 9, 11), (78, 0, 4, 1), (82, 1, 188, 1), (86, 2, 39, 3), (90, 1, 34, 1), (94, 1, 189, 1), (97, 1, 248, 1), (101, 1, 190, 0), (105, 0, 4, 5), (108, 1, 161, 0), (111, 1, 212, 0), (112, 0, 2, 1), (115, 0, 9, 12), (118, 0, 9, 13), (121, 0, 8, 1), (124, 3, 0, 0), (130, 1, 164, 1), (131, 1, 234, 2), (134, 1, 178, 0), (137, 1, 177, 0), (141, 1, 240, 3), (145, 0, 7, 7), (148, 0, 7, 6), (151, 1, 213, 2), (152, 0, 6, 0), (155, 2, 274, 1), (161, 0, 4, 6), (164, 0, 8, 0), (167, 0, 3, 0), (173, 2, 228, 1), (179, 0, 3, 1), (182, 1, 185, 0), (186, 1, 264, 1), (189, 1, 38, 1), (192, 0, 8, 2), (195, 1, 35, 1), (198, 1, 256, 1), (201, 1, 261, 2), (205, 2, 224, 2), (208, 2, 222, 2), (211, 2, 225, 2), (214, 1, 36, 1), (217, 1, 257, 1), (220, 1, 258, 1), (223, 1, 259, 1), (226, 2, 230, 2), (229, 1, 263, 2), (232, 1, 184, 1), (235, 1, 260, 1), (238, 1, 262, 3), (242, 1, 173, 4), (246, 1, 171, 4), (250, 1, 172, 4), (253, 1, 174, 0), (256, 2, 231, 2), (259, 1, 203, 4), (263, 0, 5, 11), (266, 2, 232, 2), (270, 1, 270, 2), (274, 1, 37, 1), (278, 1, 272, 1), (281, 1, 215, 2), (285, 1, 217, 0), (288, 1, 218, 0), (291, 1, 219, 0), (294, 1, 221, 0), (297, 1, 220, 1), (300, 2, 41, 5), (304, 2, 40, 4), (308, 1, 186, 2), (311, 1, 266, 1), (314, 1, 156, 5), (317, 0, 0, 1), (318, 0, 0, 2), (321, 0, 0, 3), (324, 3, 1, 0), (327, 1, 179, 1), (331, 0, 9, 14), (334, 0, 9, 15)], [], [], [])
theorem keRX10_0 : q_cpok q_mt "BlockedCars" (10, 0, 9, 0) := fun C T N h => by
    have h : some (RX10, TX10, 16) = some (C, T, N) := h
    cases h
    exact q_TB_in (q_mt2 (List.mem_of_getElem? (i := 72) rfl)) rfl
theorem keRX10_1 : q_cpok q_mt "BlockedCars" (19, 0, 9, 1) := fun C T N h => by
    have h : some (RX10, TX10, 16) = some (C, T, N) := h
    cases h
    exact q_TB_in (q_mt2 (List.mem_of_getElem? (i := 73) rfl)) rfl
theorem keRX10_2 : q_cpok q_mt "BlockedCars" (23, 0, 9, 2) := fun C T N h => by
    have h : some (RX10, TX10, 16) = some (C, T, N) := h
    cases h
    exact q_TB_in (q_mt2 (List.mem_of_getElem? (i := 74) rfl)) rfl
theorem keRX10_3 : q_cpok q_mt "BlockedCars" (29, 0, 9, 3) := fun C T N h => by
    have h : some (RX10, TX10, 16) = some (C, T, N) := h
    cases h
    exact q_TB_in (q_mt2 (List.mem_of_getElem? (i := 75) rfl)) rfl
theorem keRX10_4 : q_cpok q_mt "BlockedCars" (33, 0, 9, 4) := fun C T N h => by
    have h : some (RX10, TX10, 16) = some (C, T, N) := h
    cases h
    exact q_TB_in (q_mt2 (List.mem_of_getElem? (i := 76) rfl)) rfl
theorem keRX10_5 : q_cpok q_mt "BlockedCars" (39, 0, 9, 5) := fun C T N h => by
    have h : some (RX10, TX10, 16) = some (C, T, N) := h
    cases h
    exact q_TB_in (q_mt2 (List.mem_of_getElem? (i := 77) rfl)) rfl
theorem keRX10_6 : q_cpok q_mt "BlockedCars" (43, 0, 9, 6) := fun C T N h => by
    have h : some (RX10, TX10, 16) = some (C, T, N) := h
    cases h
    exact q_TB_in (q_mt2 (List.mem_of_getElem? (i := 78) rfl)) rfl
theorem keRX10_7 : q_cpok q_mt "BlockedCars" (49, 0, 9, 7) := fun C T N h => by
    have h : some (RX10, TX10, 16) = some (C, T, N) := h
    cases h
    exact q_TB_in (q_mt2 (List.mem_of_getElem? (i := 79) rfl)) rfl
theorem keRX10_8 : q_cpok q_mt "BlockedCars" (56, 0, 9, 8) := fun C T N h => by
    have h : some (RX10, TX10, 16) = some (C, T, N) := h
    cases h
    exact q_TB_in (q_mt2 (List.mem_of_getElem? (i := 80) rfl)) rfl
theorem keRX10_9 : q_cpok q_mt "BlockedCars" (60, 0, 9, 9) := fun C T N h => by
    have h : some (RX10, TX10, 16) = some (C, T, N) := h
    cases h
    exact q_TB_in (q_mt2 (List.mem_of_getElem? (i := 81) rfl)) rfl
theorem keRX10_10 : q_cpok q_mt "BlockedCars" (67, 0, 9, 10) := fun C T N h => by
    have h : some (RX10, TX10, 16) = some (C, T, N) := h
    cases h
    exact q_TB_in (q_mt2 (List.mem_of_getElem? (i := 82) rfl)) rfl
theorem keRX10_11 : q_cpok q_mt "BlockedCars" (74, 0, 9, 11) := fun C T N h => by
    have h : some (RX10, TX10, 16) = some (C, T, N) := h
    cases h
    exact q_TB_in (q_mt2 (List.mem_of_getElem? (i := 83) rfl)) rfl
theorem keRX10_12 : q_cpok q_mt "BlockedCars" (78, 0, 4, 1) := fun C T N h => by
    have h : some (RX4, TX4, 7) = some (C, T, N) := h
    cases h
    exact q_TB_in (q_mt1 (List.mem_of_getElem? (i := 41) rfl)) rfl
theorem keRX10_13 : q_cpok q_mt "BlockedCars" (82, 1, 188, 1) := ⟨(yX4_take, cX4_take, 3, none), rfl, q_TB_in (q_mt2 (List.mem_of_getElem? (i := 125) rfl)) rfl, q_TB_in (q_mt2 (List.mem_of_getElem? (i := 126) rfl)) rfl, q_TB_in (q_mt2 (List.mem_of_getElem? (i := 127) rfl)) rfl, q_TB_in (q_mt1 (List.mem_of_getElem? (i := 2) rfl)) rfl, q_TB_in (q_mt2 (List.mem_of_getElem? (i := 128) rfl)) rfl, ⟨by decide, by decide, by decide +kernel⟩, by decide⟩
theorem keRX10_14 : q_cpok q_mt "BlockedCars" (86, 2, 39, 3) := ⟨(yX10_isWithin, cX10_isWithin, 3, (some .boolean)), rfl, q_TB_in (q_mt2 (List.mem_of_getElem? (i := 172) rfl)) rfl, q_TB_in (q_mt2 (List.mem_of_getElem? (i := 173) rfl)) rfl, q_TB_in (q_mt1 (List.mem_of_getElem? (i := 1) rfl)) rfl, q_TB_in (q_mt2 (List.mem_of_getElem? (i := 174) rfl)) rfl, ⟨by decide, by decide, by decide +kernel⟩, by decide⟩
theorem keRX10_15 : q_cpok q_mt "BlockedCars" (90, 1, 34, 1) := ⟨(yX10_need, cX10_need, 2, none), rfl, q_TB_in (q_mt2 (List.mem_of_getElem? (i := 175) rfl)) rfl, q_TB_in (q_mt2 (List.mem_of_getElem? (i := 177) rfl)) rfl, q_TB_in (q_pv1 (i := 2) rfl) rfl, q_TB_in (q_mt1 (List.mem_of_getElem? (i := 1) rfl)) rfl, q_TB_in (q_mt2 (List.mem_of_getElem? (i := 178) rfl)) rfl, ⟨by decide, by decide, by decide +kernel⟩, by decide⟩
theorem keRX10_16 : q_cpok q_mt "BlockedCars" (94, 1, 189, 1) := ⟨(yX4_open, cX4_open, 2, none), rfl, q_TB_in (q_mt3 (List.mem_of_getElem? (i := 5) rfl)) rfl, q_TB_in (q_mt3 (List.mem_of_getElem? (i := 6) rfl)) rfl, q_TB_in (q_mt3 (List.mem_of_getElem? (i := 7) rfl)) rfl, q_TB_in (q_mt1 (List.mem_of_getElem? (i := 2) rfl)) rfl, q_TB_in (q_mt3 (List.mem_of_getElem? (i := 8) rfl)) rfl, ⟨by decide, by decide, by decide +kernel⟩, by decide⟩
theorem keRX10_17 : q_cpok q_mt "BlockedCars" (97, 1, 248, 1) := ⟨(yX9_read, cX9_read, 3, none), rfl, q_TB_in (q_mt3 (List.mem_of_getElem? (i := 12) rfl)) rfl, q_TB_in (q_mt3 (List.mem_of_getElem? (i := 13) rfl)) rfl, q_TB_in (q_mt3 (List.mem_of_getElem? (i := 14) rfl)) rfl, q_TB_in (q_mt1 (List.mem_of_getElem? (i := 3) rfl)) rfl, q_TB_in (q_mt3 (List.mem_of_getElem? (i := 15) rfl)) rfl, ⟨by decide, by decide, by decide +kernel⟩, by decide⟩
theorem keRX10_18 : q_cpok q_mt "BlockedCars" (101, 1, 190, 0) := ⟨(yX4_isSound, cX4_isSound, 1, (some .boolean)), rfl, q_TB_in (q_mt3 (List.mem_of_getElem? (i := 147) rfl)) rfl, q_TB_in (q_mt3 (List.mem_of_getElem? (i := 17) rfl)) rfl, q_TB_in (q_mt3 (List.mem_of_getElem? (i := 18) rfl)) rfl, q_TB_in (q_mt1 (List.mem_of_getElem? (i := 2) rfl)) rfl, q_TB_in (q_mt3 (List.mem_of_getElem? (i := 19) rfl)) rfl, ⟨by decide, by decide, by decide +kernel⟩, by decide⟩
theorem keRX10_19 : q_cpok q_mt "BlockedCars" (105, 0, 4, 5) := fun C T N h => by
    have h : some (RX4, TX4, 7) = some (C, T, N) := h
    cases h
    exact q_TB_in (q_mt1 (List.mem_of_getElem? (i := 52) rfl)) rfl
theorem keRX10_20 : q_cpok q_mt "BlockedCars" (108, 1, 161, 0) := ⟨(yX1_clear, cX1_clear, 1, none), rfl, q_TB_in (q_mt3 (List.mem_of_getElem? (i := 148) rfl)) rfl, q_TB_in (q_mt3 (List.mem_of_getElem? (i := 149) rfl)) rfl, q_TB_in (q_mt3 (List.mem_of_getElem? (i := 150) rfl)) rfl, q_TB_in (q_mt1 (List.mem_of_getElem? (i := 4) rfl)) rfl, q_TB_in (q_mt3 (List.mem_of_getElem? (i := 151) rfl)) rfl, ⟨by decide, by decide, by decide +kernel⟩, by decide⟩
theorem keRX10_21 : q_cpok q_mt "BlockedCars" (111, 1, 212, 0) := ⟨(yX6_clear, cX6_clear, 1, none), rfl, q_TB_in (q_mt3 (List.mem_of_getElem? (i := 152) rfl)) rfl, q_TB_in (q_mt3 (List.mem_of_getElem? (i := 153) rfl)) rfl, q_TB_in (q_mt3 (List.mem_of_getElem? (i := 154) rfl)) rfl, q_TB_in (q_mt1 (List.mem_of_getElem? (i := 5) rfl)) rfl, q_TB_in (q_mt3 (List.mem_of_getElem? (i := 155) rfl)) rfl, ⟨by decide, by decide, by decide +kernel⟩, by decide⟩
theorem keRX10_22 : q_cpok q_mt "BlockedCars" (112, 0, 2, 1) := fun C T N h => by
    have h : some (RX2, TX2, 2) = some (C, T, N) := h
    cases h
    exact q_TB_in (q_mt1 (List.mem_of_getElem? (i := 235) rfl)) rfl
theorem keRX10_23 : q_cpok q_mt "BlockedCars" (115, 0, 9, 12) := fun C T N h => by
    have h : some (RX10, TX10, 16) = some (C, T, N) := h
    cases h
    exact q_TB_in (q_mt2 (List.mem_of_getElem? (i := 84) rfl)) rfl
theorem keRX10_24 : q_cpok q_mt "BlockedCars" (118, 0, 9, 13) := fun C T N h => by
    have h : some (RX10, TX10, 16) = some (C, T, N) := h
    cases h
    exact q_TB_in (q_mt2 (List.mem_of_getElem? (i := 85) rfl)) rfl
theorem keRX10_25 : q_cpok q_mt "BlockedCars" (121, 0, 8, 1) := fun C T N h => by
    have h : some (RX9, TX9, 11) = some (C, T, N) := h
    cases h
    exact q_TB_in (q_mt1 (List.mem_of_getElem? (i := 85) rfl)) rfl
theorem keRX10_26 : q_cpok q_mt "BlockedCars" (124, 3, 0, 0) := q_TB_in (q_mt3 (List.mem_of_getElem? (i := 163) rfl)) rfl
theorem keRX10_27 : q_cpok q_mt "BlockedCars" (130, 1, 164, 1) := ⟨(yX1_read, cX1_read, 2, none), rfl, q_TB_in (q_mt3 (List.mem_of_getElem? (i := 164) rfl)) rfl, q_TB_in (q_mt3 (List.mem_of_getElem? (i := 165) rfl)) rfl, q_TB_in (q_mt3 (List.mem_of_getElem? (i := 166) rfl)) rfl, q_TB_in (q_mt1 (List.mem_of_getElem? (i := 4) rfl)) rfl, q_TB_in (q_mt3 (List.mem_of_getElem? (i := 167) rfl)) rfl, ⟨by decide, by decide, by decide +kernel⟩, by decide⟩
theorem keRX10_28 : q_cpok q_mt "BlockedCars" (131, 1, 234, 2) := ⟨(yX8_read, cX8_read, 3, none), rfl, q_TB_in (q_mt3 (List.mem_of_getElem? (i := 225) rfl)) rfl, q_TB_in (q_mt3 (List.mem_of_getElem? (i := 226) rfl)) rfl, q_TB_in (q_mt3 (List.mem_of_getElem? (i := 227) rfl)) rfl, q_TB_in (q_mt1 (List.mem_of_getElem? (i := 6) rfl)) rfl, q_TB_in (q_mt3 (List.mem_of_getElem? (i := 228) rfl)) rfl, ⟨by decide, by decide, by decide +kernel⟩, by decide⟩
theorem keRX10_29 : q_cpok q_mt "BlockedCars" (134, 1, 178, 0) := ⟨(yX2_begin, cX2_begin, 1, none), rfl, q_TB_in (q_mt4 (List.mem_of_getElem? (i := 21) rfl)) rfl, q_TB_in (q_mt4 (List.mem_of_getElem? (i := 22) rfl)) rfl, q_TB_in (q_mt4 (List.mem_of_getElem? (i := 23) rfl)) rfl, q_TB_in (q_mt1 (List.mem_of_getElem? (i := 7) rfl)) rfl, q_TB_in (q_mt4 (List.mem_of_getElem? (i := 24) rfl)) rfl, ⟨by decide, by decide, by decide +kernel⟩, by decide⟩
theorem keRX10_30 : q_cpok q_mt "BlockedCars" (137, 1, 177, 0) := ⟨(yX2_latest, cX2_latest, 1, (some (.object "BlockedCars$Position"))), rfl, q_TB_in (q_mt4 (List.mem_of_getElem? (i := 25) rfl)) rfl, q_TB_in (q_mt4 (List.mem_of_getElem? (i := 26) rfl)) rfl, q_TB_in (q_mt4 (List.mem_of_getElem? (i := 27) rfl)) rfl, q_TB_in (q_mt1 (List.mem_of_getElem? (i := 7) rfl)) rfl, q_TB_in (q_mt4 (List.mem_of_getElem? (i := 28) rfl)) rfl, ⟨by decide, by decide, by decide +kernel⟩, by decide⟩
theorem keRX10_31 : q_cpok q_mt "BlockedCars" (141, 1, 240, 3) := ⟨(yX8_run, cX8_run, 7, none), rfl, q_TB_in (q_mt4 (List.mem_of_getElem? (i := 31) rfl)) rfl, q_TB_in (q_mt4 (List.mem_of_getElem? (i := 32) rfl)) rfl, q_TB_in (q_mt4 (List.mem_of_getElem? (i := 33) rfl)) rfl, q_TB_in (q_mt1 (List.mem_of_getElem? (i := 6) rfl)) rfl, q_TB_in (q_mt4 (List.mem_of_getElem? (i := 34) rfl)) rfl, ⟨by decide, by decide, by decide +kernel⟩, by decide⟩
theorem keRX10_32 : q_cpok q_mt "BlockedCars" (145, 0, 7, 7) := fun C T N h => by
    have h : some (RX8, TX8, 8) = some (C, T, N) := h
    cases h
    exact q_TB_in (q_mt1 (List.mem_of_getElem? (i := 186) rfl)) rfl
theorem keRX10_33 : q_cpok q_mt "BlockedCars" (148, 0, 7, 6) := fun C T N h => by
    have h : some (RX8, TX8, 8) = some (C, T, N) := h
    cases h
    exact q_TB_in (q_mt1 (List.mem_of_getElem? (i := 184) rfl)) rfl
theorem keRX10_34 : q_cpok q_mt "BlockedCars" (151, 1, 213, 2) := ⟨(yX6_read, cX6_read, 4, none), rfl, q_TB_in (q_mt4 (List.mem_of_getElem? (i := 166) rfl)) rfl, q_TB_in (q_mt4 (List.mem_of_getElem? (i := 167) rfl)) rfl, q_TB_in (q_mt4 (List.mem_of_getElem? (i := 168) rfl)) rfl, q_TB_in (q_mt1 (List.mem_of_getElem? (i := 5) rfl)) rfl, q_TB_in (q_mt4 (List.mem_of_getElem? (i := 169) rfl)) rfl, ⟨by decide, by decide, by decide +kernel⟩, by decide⟩
theorem keRX10_35 : q_cpok q_mt "BlockedCars" (152, 0, 6, 0) := fun C T N h => by
    have h : some (RX6, TX6, 5) = some (C, T, N) := h
    cases h
    exact q_TB_in (q_mt1 (List.mem_of_getElem? (i := 156) rfl)) rfl
theorem keRX10_36 : q_cpok q_mt "BlockedCars" (155, 2, 274, 1) := ⟨(yJ6_bitCount_0f7a4, cJ6_bitCount_0f7a4, 1, (some .int)), rfl, q_TB_in (q_mt4 (List.mem_of_getElem? (i := 182) rfl)) rfl, q_TB_in (q_mt3 (List.mem_of_getElem? (i := 141) rfl)) rfl, q_TB_in (q_mt1 (List.mem_of_getElem? (i := 21) rfl)) rfl, q_TB_in (q_mt3 (List.mem_of_getElem? (i := 142) rfl)) rfl, ⟨by decide, by decide, by decide +kernel⟩, by decide⟩
theorem keRX10_37 : q_cpok q_mt "BlockedCars" (161, 0, 4, 6) := fun C T N h => by
    have h : some (RX4, TX4, 7) = some (C, T, N) := h
    cases h
    exact q_TB_in (q_mt1 (List.mem_of_getElem? (i := 54) rfl)) rfl
theorem keRX10_38 : q_cpok q_mt "BlockedCars" (164, 0, 8, 0) := fun C T N h => by
    have h : some (RX9, TX9, 11) = some (C, T, N) := h
    cases h
    exact q_TB_in (q_mt1 (List.mem_of_getElem? (i := 82) rfl)) rfl
theorem keRX10_39 : q_cpok q_mt "BlockedCars" (167, 0, 3, 0) := fun C T N h => by
    have h : some (RX3, TX3, 3) = some (C, T, N) := h
    cases h
    exact q_TB_in (q_mt1 (List.mem_of_getElem? (i := 219) rfl)) rfl
theorem keRX10_40 : q_cpok q_mt "BlockedCars" (173, 2, 228, 1) := ⟨(yX7_carsIn, cX7_carsIn, 5, (some .int)), rfl, q_TB_in (q_mt4 (List.mem_of_getElem? (i := 190) rfl)) rfl, q_TB_in (q_mt4 (List.mem_of_getElem? (i := 97) rfl)) rfl, q_TB_in (q_mt1 (List.mem_of_getElem? (i := 23) rfl)) rfl, q_TB_in (q_mt4 (List.mem_of_getElem? (i := 98) rfl)) rfl, ⟨by decide, by decide, by decide +kernel⟩, by decide⟩
theorem keRX10_41 : q_cpok q_mt "BlockedCars" (179, 0, 3, 1) := fun C T N h => by
    have h : some (RX3, TX3, 3) = some (C, T, N) := h
    cases h
    exact q_TB_in (q_mt1 (List.mem_of_getElem? (i := 223) rfl)) rfl
theorem keRX10_42 : q_cpok q_mt "BlockedCars" (182, 1, 185, 0) := ⟨(yX3_allMoves, cX3_allMoves, 3, (some .int)), rfl, q_TB_in (q_mt4 (List.mem_of_getElem? (i := 191) rfl)) rfl, q_TB_in (q_mt4 (List.mem_of_getElem? (i := 192) rfl)) rfl, q_TB_in (q_mt4 (List.mem_of_getElem? (i := 193) rfl)) rfl, q_TB_in (q_mt1 (List.mem_of_getElem? (i := 8) rfl)) rfl, q_TB_in (q_mt4 (List.mem_of_getElem? (i := 194) rfl)) rfl, ⟨by decide, by decide, by decide +kernel⟩, by decide⟩
theorem keRX10_43 : q_cpok q_mt "BlockedCars" (186, 1, 264, 1) := ⟨(yX9_pairsOf, cX9_pairsOf, 3, (some .int)), rfl, q_TB_in (q_mt4 (List.mem_of_getElem? (i := 195) rfl)) rfl, q_TB_in (q_mt4 (List.mem_of_getElem? (i := 196) rfl)) rfl, q_TB_in (q_mt4 (List.mem_of_getElem? (i := 197) rfl)) rfl, q_TB_in (q_mt1 (List.mem_of_getElem? (i := 3) rfl)) rfl, q_TB_in (q_mt4 (List.mem_of_getElem? (i := 198) rfl)) rfl, ⟨by decide, by decide, by decide +kernel⟩, by decide⟩
theorem keRX10_44 : q_cpok q_mt "BlockedCars" (189, 1, 38, 1) := ⟨(yX10_roomOfAll, cX10_roomOfAll, 5, (some .int)), rfl, q_TB_in (q_mt4 (List.mem_of_getElem? (i := 203) rfl)) rfl, q_TB_in (q_mt4 (List.mem_of_getElem? (i := 205) rfl)) rfl, q_TB_in (q_pv2 (i := 9) rfl) rfl, q_TB_in (q_mt1 (List.mem_of_getElem? (i := 1) rfl)) rfl, q_TB_in (q_mt4 (List.mem_of_getElem? (i := 206) rfl)) rfl, ⟨by decide, by decide, by decide +kernel⟩, by decide⟩
theorem keRX10_45 : q_cpok q_mt "BlockedCars" (192, 0, 8, 2) := fun C T N h => by
    have h : some (RX9, TX9, 11) = some (C, T, N) := h
    cases h
    exact q_TB_in (q_mt1 (List.mem_of_getElem? (i := 89) rfl)) rfl
theorem keRX10_46 : q_cpok q_mt "BlockedCars" (195, 1, 35, 1) := ⟨(yX10_needLane, cX10_needLane, 2, none), rfl, q_TB_in (q_mt4 (List.mem_of_getElem? (i := 216) rfl)) rfl, q_TB_in (q_mt4 (List.mem_of_getElem? (i := 218) rfl)) rfl, q_TB_in (q_pv2 (i := 10) rfl) rfl, q_TB_in (q_mt1 (List.mem_of_getElem? (i := 1) rfl)) rfl, q_TB_in (q_mt4 (List.mem_of_getElem? (i := 219) rfl)) rfl, ⟨by decide, by decide, by decide +kernel⟩, by decide⟩
theorem keRX10_47 : q_cpok q_mt "BlockedCars" (198, 1, 256, 1) := ⟨(yX9_placesOf, cX9_placesOf, 2, (some .int)), rfl, q_TB_in (q_mt4 (List.mem_of_getElem? (i := 236) rfl)) rfl, q_TB_in (q_mt4 (List.mem_of_getElem? (i := 58) rfl)) rfl, q_TB_in (q_mt4 (List.mem_of_getElem? (i := 59) rfl)) rfl, q_TB_in (q_mt1 (List.mem_of_getElem? (i := 3) rfl)) rfl, q_TB_in (q_mt4 (List.mem_of_getElem? (i := 60) rfl)) rfl, ⟨by decide, by decide, by decide +kernel⟩, by decide⟩
theorem keRX10_48 : q_cpok q_mt "BlockedCars" (201, 1, 261, 2) := ⟨(yX9_roomOf, cX9_roomOf, 6, (some .int)), rfl, q_TB_in (q_mt4 (List.mem_of_getElem? (i := 207) rfl)) rfl, q_TB_in (q_mt4 (List.mem_of_getElem? (i := 54) rfl)) rfl, q_TB_in (q_mt4 (List.mem_of_getElem? (i := 55) rfl)) rfl, q_TB_in (q_mt1 (List.mem_of_getElem? (i := 3) rfl)) rfl, q_TB_in (q_mt4 (List.mem_of_getElem? (i := 56) rfl)) rfl, ⟨by decide, by decide, by decide +kernel⟩, by decide⟩
theorem keRX10_49 : q_cpok q_mt "BlockedCars" (205, 2, 224, 2) := ⟨(yX7_frontOf, cX7_frontOf, 3, (some .int)), rfl, q_TB_in (q_mt4 (List.mem_of_getElem? (i := 237) rfl)) rfl, q_TB_in (q_mt4 (List.mem_of_getElem? (i := 84) rfl)) rfl, q_TB_in (q_mt1 (List.mem_of_getElem? (i := 23) rfl)) rfl, q_TB_in (q_mt4 (List.mem_of_getElem? (i := 85) rfl)) rfl, ⟨by decide, by decide, by decide +kernel⟩, by decide⟩
theorem keRX10_50 : q_cpok q_mt "BlockedCars" (208, 2, 222, 2) := ⟨(yX7_rowOf, cX7_rowOf, 3, (some .int)), rfl, q_TB_in (q_mt4 (List.mem_of_getElem? (i := 238) rfl)) rfl, q_TB_in (q_mt4 (List.mem_of_getElem? (i := 62) rfl)) rfl, q_TB_in (q_mt1 (List.mem_of_getElem? (i := 23) rfl)) rfl, q_TB_in (q_mt4 (List.mem_of_getElem? (i := 63) rfl)) rfl, ⟨by decide, by decide, by decide +kernel⟩, by decide⟩
theorem keRX10_51 : q_cpok q_mt "BlockedCars" (211, 2, 225, 2) := ⟨(yX7_carAtWall, cX7_carAtWall, 5, (some .int)), rfl, q_TB_in (q_mt4 (List.mem_of_getElem? (i := 239) rfl)) rfl, q_TB_in (q_mt5 (List.mem_of_getElem? (i := 0) rfl)) rfl, q_TB_in (q_mt1 (List.mem_of_getElem? (i := 23) rfl)) rfl, q_TB_in (q_mt5 (List.mem_of_getElem? (i := 1) rfl)) rfl, ⟨by decide, by decide, by decide +kernel⟩, by decide⟩
theorem keRX10_52 : q_cpok q_mt "BlockedCars" (214, 1, 36, 1) := ⟨(yX10_needCar, cX10_needCar, 2, none), rfl, q_TB_in (q_mt5 (List.mem_of_getElem? (i := 9) rfl)) rfl, q_TB_in (q_mt5 (List.mem_of_getElem? (i := 11) rfl)) rfl, q_TB_in (q_pv2 (i := 11) rfl) rfl, q_TB_in (q_mt1 (List.mem_of_getElem? (i := 1) rfl)) rfl, q_TB_in (q_mt5 (List.mem_of_getElem? (i := 12) rfl)) rfl, ⟨by decide, by decide, by decide +kernel⟩, by decide⟩
theorem keRX10_53 : q_cpok q_mt "BlockedCars" (217, 1, 257, 1) := ⟨(yX9_lengthOf, cX9_lengthOf, 2, (some .int)), rfl, q_TB_in (q_mt5 (List.mem_of_getElem? (i := 14) rfl)) rfl, q_TB_in (q_mt4 (List.mem_of_getElem? (i := 66) rfl)) rfl, q_TB_in (q_mt4 (List.mem_of_getElem? (i := 67) rfl)) rfl, q_TB_in (q_mt1 (List.mem_of_getElem? (i := 3) rfl)) rfl, q_TB_in (q_mt4 (List.mem_of_getElem? (i := 68) rfl)) rfl, ⟨by decide, by decide, by decide +kernel⟩, by decide⟩
theorem keRX10_54 : q_cpok q_mt "BlockedCars" (220, 1, 258, 1) := ⟨(yX9_hourOf, cX9_hourOf, 2, (some .int)), rfl, q_TB_in (q_mt5 (List.mem_of_getElem? (i := 15) rfl)) rfl, q_TB_in (q_mt4 (List.mem_of_getElem? (i := 106) rfl)) rfl, q_TB_in (q_mt4 (List.mem_of_getElem? (i := 107) rfl)) rfl, q_TB_in (q_mt1 (List.mem_of_getElem? (i := 3) rfl)) rfl, q_TB_in (q_mt4 (List.mem_of_getElem? (i := 108) rfl)) rfl, ⟨by decide, by decide, by decide +kernel⟩, by decide⟩
theorem keRX10_55 : q_cpok q_mt "BlockedCars" (223, 1, 259, 1) := ⟨(yX9_triesOf, cX9_triesOf, 2, (some .int)), rfl, q_TB_in (q_mt5 (List.mem_of_getElem? (i := 16) rfl)) rfl, q_TB_in (q_mt4 (List.mem_of_getElem? (i := 102) rfl)) rfl, q_TB_in (q_mt4 (List.mem_of_getElem? (i := 103) rfl)) rfl, q_TB_in (q_mt1 (List.mem_of_getElem? (i := 3) rfl)) rfl, q_TB_in (q_mt4 (List.mem_of_getElem? (i := 104) rfl)) rfl, ⟨by decide, by decide, by decide +kernel⟩, by decide⟩
theorem keRX10_56 : q_cpok q_mt "BlockedCars" (226, 2, 230, 2) := ⟨(yX7_laneOf, cX7_laneOf, 4, (some .int)), rfl, q_TB_in (q_mt5 (List.mem_of_getElem? (i := 17) rfl)) rfl, q_TB_in (q_mt4 (List.mem_of_getElem? (i := 48) rfl)) rfl, q_TB_in (q_mt1 (List.mem_of_getElem? (i := 23) rfl)) rfl, q_TB_in (q_mt4 (List.mem_of_getElem? (i := 49) rfl)) rfl, ⟨by decide, by decide, by decide +kernel⟩, by decide⟩
theorem keRX10_57 : q_cpok q_mt "BlockedCars" (229, 1, 263, 2) := ⟨(yX9_firstPlaceOf, cX9_firstPlaceOf, 6, (some .int)), rfl, q_TB_in (q_mt5 (List.mem_of_getElem? (i := 18) rfl)) rfl, q_TB_in (q_mt5 (List.mem_of_getElem? (i := 19) rfl)) rfl, q_TB_in (q_mt5 (List.mem_of_getElem? (i := 20) rfl)) rfl, q_TB_in (q_mt1 (List.mem_of_getElem? (i := 3) rfl)) rfl, q_TB_in (q_mt5 (List.mem_of_getElem? (i := 21) rfl)) rfl, ⟨by decide, by decide, by decide +kernel⟩, by decide⟩
theorem keRX10_58 : q_cpok q_mt "BlockedCars" (232, 1, 184, 1) := ⟨(yX3_movesOf, cX3_movesOf, 2, (some .int)), rfl, q_TB_in (q_mt5 (List.mem_of_getElem? (i := 26) rfl)) rfl, q_TB_in (q_mt4 (List.mem_of_getElem? (i := 115) rfl)) rfl, q_TB_in (q_mt4 (List.mem_of_getElem? (i := 116) rfl)) rfl, q_TB_in (q_mt1 (List.mem_of_getElem? (i := 8) rfl)) rfl, q_TB_in (q_mt4 (List.mem_of_getElem? (i := 117) rfl)) rfl, ⟨by decide, by decide, by decide +kernel⟩, by decide⟩
theorem keRX10_59 : q_cpok q_mt "BlockedCars" (235, 1, 260, 1) := ⟨(yX9_keysOf, cX9_keysOf, 2, (some .int)), rfl, q_TB_in (q_mt5 (List.mem_of_getElem? (i := 27) rfl)) rfl, q_TB_in (q_mt4 (List.mem_of_getElem? (i := 87) rfl)) rfl, q_TB_in (q_mt4 (List.mem_of_getElem? (i := 88) rfl)) rfl, q_TB_in (q_mt1 (List.mem_of_getElem? (i := 3) rfl)) rfl, q_TB_in (q_mt4 (List.mem_of_getElem? (i := 89) rfl)) rfl, ⟨by decide, by decide, by decide +kernel⟩, by decide⟩
theorem keRX10_60 : q_cpok q_mt "BlockedCars" (238, 1, 262, 3) := ⟨(yX9_carOn, cX9_carOn, 10, (some .int)), rfl, q_TB_in (q_mt5 (List.mem_of_getElem? (i := 35) rfl)) rfl, q_TB_in (q_mt5 (List.mem_of_getElem? (i := 23) rfl)) rfl, q_TB_in (q_mt5 (List.mem_of_getElem? (i := 24) rfl)) rfl, q_TB_in (q_mt1 (List.mem_of_getElem? (i := 3) rfl)) rfl, q_TB_in (q_mt5 (List.mem_of_getElem? (i := 25) rfl)) rfl, ⟨by decide, by decide, by decide +kernel⟩, by decide⟩
theorem keRX10_61 : q_cpok q_mt "BlockedCars" (242, 1, 173, 4) := ⟨(yX1_secondsNow, cX1_secondsNow, 7, (some .int)), rfl, q_TB_in (q_mt5 (List.mem_of_getElem? (i := 43) rfl)) rfl, q_TB_in (q_mt4 (List.mem_of_getElem? (i := 91) rfl)) rfl, q_TB_in (q_mt4 (List.mem_of_getElem? (i := 92) rfl)) rfl, q_TB_in (q_mt1 (List.mem_of_getElem? (i := 4) rfl)) rfl, q_TB_in (q_mt4 (List.mem_of_getElem? (i := 93) rfl)) rfl, ⟨by decide, by decide, by decide +kernel⟩, by decide⟩
theorem keRX10_62 : q_cpok q_mt "BlockedCars" (246, 1, 171, 4) := ⟨(yX1_tellCar, cX1_tellCar, 5, none), rfl, q_TB_in (q_mt5 (List.mem_of_getElem? (i := 51) rfl)) rfl, q_TB_in (q_mt4 (List.mem_of_getElem? (i := 110) rfl)) rfl, q_TB_in (q_mt4 (List.mem_of_getElem? (i := 111) rfl)) rfl, q_TB_in (q_mt1 (List.mem_of_getElem? (i := 4) rfl)) rfl, q_TB_in (q_mt4 (List.mem_of_getElem? (i := 112) rfl)) rfl, ⟨by decide, by decide, by decide +kernel⟩, by decide⟩
theorem keRX10_63 : q_cpok q_mt "BlockedCars" (250, 1, 172, 4) := ⟨(yX1_tellMove, cX1_tellMove, 5, none), rfl, q_TB_in (q_mt5 (List.mem_of_getElem? (i := 52) rfl)) rfl, q_TB_in (q_mt4 (List.mem_of_getElem? (i := 119) rfl)) rfl, q_TB_in (q_mt4 (List.mem_of_getElem? (i := 120) rfl)) rfl, q_TB_in (q_mt1 (List.mem_of_getElem? (i := 4) rfl)) rfl, q_TB_in (q_mt4 (List.mem_of_getElem? (i := 121) rfl)) rfl, ⟨by decide, by decide, by decide +kernel⟩, by decide⟩
theorem keRX10_64 : q_cpok q_mt "BlockedCars" (253, 1, 174, 0) := ⟨(yX1_secondsTold, cX1_secondsTold, 4, (some .int)), rfl, q_TB_in (q_mt5 (List.mem_of_getElem? (i := 53) rfl)) rfl, q_TB_in (q_mt4 (List.mem_of_getElem? (i := 123) rfl)) rfl, q_TB_in (q_mt4 (List.mem_of_getElem? (i := 124) rfl)) rfl, q_TB_in (q_mt1 (List.mem_of_getElem? (i := 4) rfl)) rfl, q_TB_in (q_mt4 (List.mem_of_getElem? (i := 125) rfl)) rfl, ⟨by decide, by decide, by decide +kernel⟩, by decide⟩
theorem keRX10_65 : q_cpok q_mt "BlockedCars" (256, 2, 231, 2) := ⟨(yX7_aheadOf, cX7_aheadOf, 5, (some .int)), rfl, q_TB_in (q_mt5 (List.mem_of_getElem? (i := 61) rfl)) rfl, q_TB_in (q_mt5 (List.mem_of_getElem? (i := 62) rfl)) rfl, q_TB_in (q_mt1 (List.mem_of_getElem? (i := 23) rfl)) rfl, q_TB_in (q_mt5 (List.mem_of_getElem? (i := 63) rfl)) rfl, ⟨by decide, by decide, by decide +kernel⟩, by decide⟩
theorem keRX10_66 : q_cpok q_mt "BlockedCars" (259, 1, 203, 4) := ⟨(yX5_seek, cX5_seek, 10, (some .int)), rfl, q_TB_in (q_mt5 (List.mem_of_getElem? (i := 72) rfl)) rfl, q_TB_in (q_mt5 (List.mem_of_getElem? (i := 73) rfl)) rfl, q_TB_in (q_mt5 (List.mem_of_getElem? (i := 74) rfl)) rfl, q_TB_in (q_mt1 (List.mem_of_getElem? (i := 9) rfl)) rfl, q_TB_in (q_mt5 (List.mem_of_getElem? (i := 75) rfl)) rfl, ⟨by decide, by decide, by decide +kernel⟩, by decide⟩
theorem keRX10_67 : q_cpok q_mt "BlockedCars" (263, 0, 5, 11) := fun C T N h => by
    have h : some (RX5, TX5, 12) = some (C, T, N) := h
    cases h
    exact q_TB_in (q_mt2 (List.mem_of_getElem? (i := 23) rfl)) rfl
theorem keRX10_68 : q_cpok q_mt "BlockedCars" (266, 2, 232, 2) := ⟨(yX7_takeAway, cX7_takeAway, 8, (some .long)), rfl, q_TB_in (q_mt5 (List.mem_of_getElem? (i := 142) rfl)) rfl, q_TB_in (q_mt5 (List.mem_of_getElem? (i := 143) rfl)) rfl, q_TB_in (q_mt1 (List.mem_of_getElem? (i := 23) rfl)) rfl, q_TB_in (q_mt5 (List.mem_of_getElem? (i := 144) rfl)) rfl, ⟨by decide, by decide, by decide +kernel⟩, by decide⟩
theorem keRX10_69 : q_cpok q_mt "BlockedCars" (270, 1, 270, 2) := ⟨(yX9_getsOutAlone, cX9_getsOutAlone, 11, (some .boolean)), rfl, q_TB_in (q_mt5 (List.mem_of_getElem? (i := 152) rfl)) rfl, q_TB_in (q_mt5 (List.mem_of_getElem? (i := 153) rfl)) rfl, q_TB_in (q_mt5 (List.mem_of_getElem? (i := 154) rfl)) rfl, q_TB_in (q_mt1 (List.mem_of_getElem? (i := 3) rfl)) rfl, q_TB_in (q_mt5 (List.mem_of_getElem? (i := 155) rfl)) rfl, ⟨by decide, by decide, by decide +kernel⟩, by decide⟩
theorem keRX10_70 : q_cpok q_mt "BlockedCars" (274, 1, 37, 1) := ⟨(yX10_areCars, cX10_areCars, 2, (some .boolean)), rfl, q_TB_in (q_mt5 (List.mem_of_getElem? (i := 169) rfl)) rfl, q_TB_in (q_mt5 (List.mem_of_getElem? (i := 171) rfl)) rfl, q_TB_in (q_pv3 (i := 4) rfl) rfl, q_TB_in (q_mt1 (List.mem_of_getElem? (i := 1) rfl)) rfl, q_TB_in (q_mt5 (List.mem_of_getElem? (i := 172) rfl)) rfl, ⟨by decide, by decide, by decide +kernel⟩, by decide⟩
theorem keRX10_71 : q_cpok q_mt "BlockedCars" (278, 1, 272, 1) := ⟨(yX9_bestEvening, cX9_bestEvening, 6, (some .int)), rfl, q_TB_in (q_mt5 (List.mem_of_getElem? (i := 173) rfl)) rfl, q_TB_in (q_mt5 (List.mem_of_getElem? (i := 174) rfl)) rfl, q_TB_in (q_mt5 (List.mem_of_getElem? (i := 175) rfl)) rfl, q_TB_in (q_mt1 (List.mem_of_getElem? (i := 3) rfl)) rfl, q_TB_in (q_mt5 (List.mem_of_getElem? (i := 176) rfl)) rfl, ⟨by decide, by decide, by decide +kernel⟩, by decide⟩
theorem keRX10_72 : q_cpok q_mt "BlockedCars" (281, 1, 215, 2) := ⟨(yX6_lookAt, cX6_lookAt, 7, none), rfl, q_TB_in (q_mt5 (List.mem_of_getElem? (i := 196) rfl)) rfl, q_TB_in (q_mt5 (List.mem_of_getElem? (i := 197) rfl)) rfl, q_TB_in (q_mt5 (List.mem_of_getElem? (i := 198) rfl)) rfl, q_TB_in (q_mt1 (List.mem_of_getElem? (i := 5) rfl)) rfl, q_TB_in (q_mt5 (List.mem_of_getElem? (i := 199) rfl)) rfl, ⟨by decide, by decide, by decide +kernel⟩, by decide⟩
theorem keRX10_73 : q_cpok q_mt "BlockedCars" (285, 1, 217, 0) := ⟨(yX6_howManySets, cX6_howManySets, 3, (some .int)), rfl, q_TB_in (q_mt5 (List.mem_of_getElem? (i := 201) rfl)) rfl, q_TB_in (q_mt5 (List.mem_of_getElem? (i := 202) rfl)) rfl, q_TB_in (q_mt5 (List.mem_of_getElem? (i := 203) rfl)) rfl, q_TB_in (q_mt1 (List.mem_of_getElem? (i := 5) rfl)) rfl, q_TB_in (q_mt5 (List.mem_of_getElem? (i := 204) rfl)) rfl, ⟨by decide, by decide, by decide +kernel⟩, by decide⟩
theorem keRX10_74 : q_cpok q_mt "BlockedCars" (288, 1, 218, 0) := ⟨(yX6_firstSet, cX6_firstSet, 2, (some .int)), rfl, q_TB_in (q_mt5 (List.mem_of_getElem? (i := 209) rfl)) rfl, q_TB_in (q_mt5 (List.mem_of_getElem? (i := 210) rfl)) rfl, q_TB_in (q_mt5 (List.mem_of_getElem? (i := 211) rfl)) rfl, q_TB_in (q_mt1 (List.mem_of_getElem? (i := 5) rfl)) rfl, q_TB_in (q_mt5 (List.mem_of_getElem? (i := 212) rfl)) rfl, ⟨by decide, by decide, by decide +kernel⟩, by decide⟩
theorem keRX10_75 : q_cpok q_mt "BlockedCars" (291, 1, 219, 0) := ⟨(yX6_carsInAllSets, cX6_carsInAllSets, 3, (some .int)), rfl, q_TB_in (q_mt5 (List.mem_of_getElem? (i := 213) rfl)) rfl, q_TB_in (q_mt5 (List.mem_of_getElem? (i := 214) rfl)) rfl, q_TB_in (q_mt5 (List.mem_of_getElem? (i := 215) rfl)) rfl, q_TB_in (q_mt1 (List.mem_of_getElem? (i := 5) rfl)) rfl, q_TB_in (q_mt5 (List.mem_of_getElem? (i := 216) rfl)) rfl, ⟨by decide, by decide, by decide +kernel⟩, by decide⟩
theorem keRX10_76 : q_cpok q_mt "BlockedCars" (294, 1, 221, 0) := ⟨(yX6_bestPlace, cX6_bestPlace, 5, (some .int)), rfl, q_TB_in (q_mt5 (List.mem_of_getElem? (i := 224) rfl)) rfl, q_TB_in (q_mt5 (List.mem_of_getElem? (i := 225) rfl)) rfl, q_TB_in (q_mt5 (List.mem_of_getElem? (i := 226) rfl)) rfl, q_TB_in (q_mt1 (List.mem_of_getElem? (i := 5) rfl)) rfl, q_TB_in (q_mt5 (List.mem_of_getElem? (i := 227) rfl)) rfl, ⟨by decide, by decide, by decide +kernel⟩, by decide⟩
theorem keRX10_77 : q_cpok q_mt "BlockedCars" (297, 1, 220, 1) := ⟨(yX6_worstAt, cX6_worstAt, 6, (some .int)), rfl, q_TB_in (q_mt5 (List.mem_of_getElem? (i := 234) rfl)) rfl, q_TB_in (q_mt5 (List.mem_of_getElem? (i := 229) rfl)) rfl, q_TB_in (q_mt5 (List.mem_of_getElem? (i := 230) rfl)) rfl, q_TB_in (q_mt1 (List.mem_of_getElem? (i := 5) rfl)) rfl, q_TB_in (q_mt5 (List.mem_of_getElem? (i := 231) rfl)) rfl, ⟨by decide, by decide, by decide +kernel⟩, by decide⟩
theorem keRX10_78 : q_cpok q_mt "BlockedCars" (300, 2, 41, 5) := ⟨(yX10_isBest, cX10_isBest, 7, (some .boolean)), rfl, q_TB_in (q_mt6 (List.mem_of_getElem? (i := 2) rfl)) rfl, q_TB_in (q_mt6 (List.mem_of_getElem? (i := 3) rfl)) rfl, q_TB_in (q_mt1 (List.mem_of_getElem? (i := 1) rfl)) rfl, q_TB_in (q_mt6 (List.mem_of_getElem? (i := 4) rfl)) rfl, ⟨by decide, by decide, by decide +kernel⟩, by decide⟩
theorem keRX10_79 : q_cpok q_mt "BlockedCars" (304, 2, 40, 4) := ⟨(yX10_hasByBid, cX10_hasByBid, 4, (some .int)), rfl, q_TB_in (q_mt6 (List.mem_of_getElem? (i := 5) rfl)) rfl, q_TB_in (q_mt6 (List.mem_of_getElem? (i := 6) rfl)) rfl, q_TB_in (q_mt1 (List.mem_of_getElem? (i := 1) rfl)) rfl, q_TB_in (q_mt6 (List.mem_of_getElem? (i := 7) rfl)) rfl, ⟨by decide, by decide, by decide +kernel⟩, by decide⟩
theorem keRX10_80 : q_cpok q_mt "BlockedCars" (308, 1, 186, 2) := ⟨(yX3_levelled, cX3_levelled, 5, (some .int)), rfl, q_TB_in (q_mt6 (List.mem_of_getElem? (i := 15) rfl)) rfl, q_TB_in (q_mt6 (List.mem_of_getElem? (i := 16) rfl)) rfl, q_TB_in (q_mt6 (List.mem_of_getElem? (i := 17) rfl)) rfl, q_TB_in (q_mt1 (List.mem_of_getElem? (i := 8) rfl)) rfl, q_TB_in (q_mt6 (List.mem_of_getElem? (i := 18) rfl)) rfl, ⟨by decide, by decide, by decide +kernel⟩, by decide⟩
theorem keRX10_81 : q_cpok q_mt "BlockedCars" (311, 1, 266, 1) := ⟨(yX9_nextOut, cX9_nextOut, 5, (some .int)), rfl, q_TB_in (q_mt6 (List.mem_of_getElem? (i := 34) rfl)) rfl, q_TB_in (q_mt5 (List.mem_of_getElem? (i := 111) rfl)) rfl, q_TB_in (q_mt5 (List.mem_of_getElem? (i := 112) rfl)) rfl, q_TB_in (q_mt1 (List.mem_of_getElem? (i := 3) rfl)) rfl, q_TB_in (q_mt5 (List.mem_of_getElem? (i := 113) rfl)) rfl, ⟨by decide, by decide, by decide +kernel⟩, by decide⟩
theorem keRX10_82 : q_cpok q_mt "BlockedCars" (314, 1, 156, 5) := ⟨(yX0_run, cX0_run, 10, none), rfl, q_TB_in (q_mt6 (List.mem_of_getElem? (i := 49) rfl)) rfl, q_TB_in (q_mt6 (List.mem_of_getElem? (i := 50) rfl)) rfl, q_TB_in (q_mt6 (List.mem_of_getElem? (i := 51) rfl)) rfl, q_TB_in (q_mt1 (List.mem_of_getElem? (i := 10) rfl)) rfl, q_TB_in (q_mt6 (List.mem_of_getElem? (i := 52) rfl)) rfl, ⟨by decide, by decide, by decide +kernel⟩, by decide⟩
theorem keRX10_83 : q_cpok q_mt "BlockedCars" (317, 0, 0, 1) := fun C T N h => by
    have h : some (RX0, TX0, 4) = some (C, T, N) := h
    cases h
    exact q_TB_in (q_mt2 (List.mem_of_getElem? (i := 58) rfl)) rfl
theorem keRX10_84 : q_cpok q_mt "BlockedCars" (318, 0, 0, 2) := fun C T N h => by
    have h : some (RX0, TX0, 4) = some (C, T, N) := h
    cases h
    exact q_TB_in (q_mt2 (List.mem_of_getElem? (i := 60) rfl)) rfl
theorem keRX10_85 : q_cpok q_mt "BlockedCars" (321, 0, 0, 3) := fun C T N h => by
    have h : some (RX0, TX0, 4) = some (C, T, N) := h
    cases h
    exact q_TB_in (q_mt2 (List.mem_of_getElem? (i := 62) rfl)) rfl
theorem keRX10_86 : q_cpok q_mt "BlockedCars" (324, 3, 1, 0) := q_TB_in (q_mt6 (List.mem_of_getElem? (i := 77) rfl)) rfl
theorem keRX10_87 : q_cpok q_mt "BlockedCars" (327, 1, 179, 1) := ⟨(yX2_become, cX2_become, 3, none), rfl, q_TB_in (q_mt2 (List.mem_of_getElem? (i := 141) rfl)) rfl, q_TB_in (q_mt2 (List.mem_of_getElem? (i := 142) rfl)) rfl, q_TB_in (q_mt2 (List.mem_of_getElem? (i := 143) rfl)) rfl, q_TB_in (q_mt1 (List.mem_of_getElem? (i := 7) rfl)) rfl, q_TB_in (q_mt2 (List.mem_of_getElem? (i := 144) rfl)) rfl, ⟨by decide, by decide, by decide +kernel⟩, by decide⟩
theorem keRX10_88 : q_cpok q_mt "BlockedCars" (331, 0, 9, 14) := fun C T N h => by
    have h : some (RX10, TX10, 16) = some (C, T, N) := h
    cases h
    exact q_TB_in (q_mt2 (List.mem_of_getElem? (i := 86) rfl)) rfl
theorem keRX10_89 : q_cpok q_mt "BlockedCars" (334, 0, 9, 15) := fun C T N h => by
    have h : some (RX10, TX10, 16) = some (C, T, N) := h
    cases h
    exact q_TB_in (q_mt2 (List.mem_of_getElem? (i := 87) rfl)) rfl
theorem koRX10 : q_kok q_mt "BlockedCars" kpRX10 := ⟨List.forall_mem_cons.mpr ⟨keRX10_0, List.forall_mem_cons.mpr ⟨keRX10_1, List.forall_mem_cons.mpr ⟨keRX10_2, List.forall_mem_cons.mpr ⟨keRX10_3, List.forall_mem_cons.mpr ⟨keRX10_4, List.forall_mem_cons.mpr ⟨keRX10_5, List.forall_mem_cons.mpr ⟨keRX10_6, List.forall_mem_cons.mpr ⟨keRX10_7, List.forall_mem_cons.mpr ⟨keRX10_8, List.forall_mem_cons.mpr ⟨keRX10_9, List.forall_mem_cons.mpr ⟨keRX10_10, List.forall_mem_cons.mpr ⟨keRX10_11, List.forall_mem_cons.mpr ⟨keRX10_12, List.forall_mem_cons.mpr ⟨keRX10_13, List.forall_mem_cons.mpr ⟨keRX10_14, List.forall_mem_cons.mpr ⟨keRX10_15, List.forall_mem_cons.mpr ⟨keRX10_16, List.forall_mem_cons.mpr ⟨keRX10_17, List.forall_mem_cons.mpr ⟨keRX10_18, List.forall_mem_cons.mpr ⟨keRX10_19, List.forall_mem_cons.mpr ⟨keRX10_20, List.forall_mem_cons.mpr ⟨keRX10_21, List.forall_mem_cons.mpr ⟨keRX10_22, List.forall_mem_cons.mpr ⟨keRX10_23, List.forall_mem_cons.mpr ⟨keRX10_24, List.forall_mem_cons.mpr ⟨keRX10_25, List.forall_mem_cons.mpr ⟨keRX10_26, List.forall_mem_cons.mpr ⟨keRX10_27, List.forall_mem_cons.mpr ⟨keRX10_28, List.forall_mem_cons.mpr ⟨keRX10_29, List.forall_mem_cons.mpr ⟨keRX10_30, List.forall_mem_cons.mpr ⟨keRX10_31, List.forall_mem_cons.mpr ⟨keRX10_32, List.forall_mem_cons.mpr ⟨keRX10_33, List.forall_mem_cons.mpr ⟨keRX10_34, List.forall_mem_cons.mpr ⟨keRX10_35, List.forall_mem_cons.mpr ⟨keRX10_36, List.forall_mem_cons.mpr ⟨keRX10_37, List.forall_mem_cons.mpr ⟨keRX10_38, List.forall_mem_cons.mpr ⟨keRX10_39, List.forall_mem_cons.mpr ⟨keRX10_40, List.forall_mem_cons.mpr ⟨keRX10_41, List.forall_mem_cons.mpr ⟨keRX10_42, List.forall_mem_cons.mpr ⟨keRX10_43, List.forall_mem_cons.mpr ⟨keRX10_44, List.forall_mem_cons.mpr ⟨keRX10_45, List.forall_mem_cons.mpr ⟨keRX10_46, List.forall_mem_cons.mpr ⟨keRX10_47, List.forall_mem_cons.mpr ⟨keRX10_48, List.forall_mem_cons.mpr ⟨keRX10_49, List.forall_mem_cons.mpr ⟨keRX10_50, List.forall_mem_cons.mpr ⟨keRX10_51, List.forall_mem_cons.mpr ⟨keRX10_52, List.forall_mem_cons.mpr ⟨keRX10_53, List.forall_mem_cons.mpr ⟨keRX10_54, List.forall_mem_cons.mpr ⟨keRX10_55, List.forall_mem_cons.mpr ⟨keRX10_56, List.forall_mem_cons.mpr ⟨keRX10_57, List.forall_mem_cons.mpr ⟨keRX10_58, List.forall_mem_cons.mpr ⟨keRX10_59, List.forall_mem_cons.mpr ⟨keRX10_60, List.forall_mem_cons.mpr ⟨keRX10_61, List.forall_mem_cons.mpr ⟨keRX10_62, List.forall_mem_cons.mpr ⟨keRX10_63, List.forall_mem_cons.mpr ⟨keRX10_64, List.forall_mem_cons.mpr ⟨keRX10_65, List.forall_mem_cons.mpr ⟨keRX10_66, List.forall_mem_cons.mpr ⟨keRX10_67, List.forall_mem_cons.mpr ⟨keRX10_68, List.forall_mem_cons.mpr ⟨keRX10_69, List.forall_mem_cons.mpr ⟨keRX10_70, List.forall_mem_cons.mpr ⟨keRX10_71, List.forall_mem_cons.mpr ⟨keRX10_72, List.forall_mem_cons.mpr ⟨keRX10_73, List.forall_mem_cons.mpr ⟨keRX10_74, List.forall_mem_cons.mpr ⟨keRX10_75, List.forall_mem_cons.mpr ⟨keRX10_76, List.forall_mem_cons.mpr ⟨keRX10_77, List.forall_mem_cons.mpr ⟨keRX10_78, List.forall_mem_cons.mpr ⟨keRX10_79, List.forall_mem_cons.mpr ⟨keRX10_80, List.forall_mem_cons.mpr ⟨keRX10_81, List.forall_mem_cons.mpr ⟨keRX10_82, List.forall_mem_cons.mpr ⟨keRX10_83, List.forall_mem_cons.mpr ⟨keRX10_84, List.forall_mem_cons.mpr ⟨keRX10_85, List.forall_mem_cons.mpr ⟨keRX10_86, List.forall_mem_cons.mpr ⟨keRX10_87, List.forall_mem_cons.mpr ⟨keRX10_88, List.forall_mem_cons.mpr ⟨keRX10_89, (fun _ h => nomatch h)⟩⟩⟩⟩⟩⟩⟩⟩⟩⟩⟩⟩⟩⟩⟩⟩⟩⟩⟩⟩⟩⟩⟩⟩⟩⟩⟩⟩⟩⟩⟩⟩⟩⟩⟩⟩⟩⟩⟩⟩⟩⟩⟩⟩⟩⟩⟩⟩⟩⟩⟩⟩⟩⟩⟩⟩⟩⟩⟩⟩⟩⟩⟩⟩⟩⟩⟩⟩⟩⟩⟩⟩⟩⟩⟩⟩⟩⟩⟩⟩⟩⟩⟩⟩⟩⟩⟩⟩⟩⟩, (fun _ h => nomatch h), (fun _ h => nomatch h), (fun _ h => nomatch h)⟩
def kpRX11 : qK := ([(9, 0, 10, 3), (13, 0, 10, 9), (17, 0, 10, 10), (20, 0, 10, 11), (23, 0, 10, 12), (26, 0, 10, 13), (29, 0, 10, 14), (32, 0, 10, 15), (35, 0, 10, 16), (40, 0, 10, 17), (43, 0, 10, 18), (46, 0, 10, 21), (49, 0, 10, 22), (52, 0, 10, 23), (55, 0, 10, 24), (58, 0, 10, 25), (61, 0, 10, 26), (64, 0, 10, 27), (67, 0, 10, 29), (70, 0, 10, 30), (73, 0, 10, 31), (76, 0, 10, 32), (80, 0, 10, 40), (83, 0, 10, 41), (86, 0, 10, 42), (92, 0, 10, 44), (95, 0, 10, 45), (98, 1, 43, 0), (101, 1, 71, 0), (104, 0, 10, 0), (107, 0, 10, 1), (110, 0, 10, 2), (113, 0, 10, 4), (116, 1, 51, 1), (120, 0, 10, 5), (123, 0, 10, 6), (126, 1, 52, 0), (129, 2, 54, 1), (133, 1, 53, 2), (138, 2, 46, 3), (142, 2, 55, 1), (145, 1, 57, 0), (149, 2, 58, 6), (153, 1, 59, 6), (157, 1, 60, 0), (160, 0, 10, 7), (163, 0, 10, 8), (166, 1, 66, 0), (169, 1, 56, 2), (173, 1, 62, 1), (177, 1, 45, 3), (181, 1, 64, 1), (184, 1, 67, 0), (187, 1, 65, 0), (190, 2, 69, 3), (194, 0, 10, 19), (197, 0, 10, 33), (200, 0, 10, 34), (203, 0, 10, 35), (206, 0, 10, 36), (209, 0, 10, 20), (212, 1, 75, 0), (215, 1, 63, 1), (218, 1, 72, 2), (221, 1, 77, 0), (224, 1, 61, 6), (227, 1, 73, 0), (231, 1, 74, 0), (234, 1, 76, 0), (237, 2, 47, 2), (240, 2, 48, 2), (243, 2, 79, 3), (247, 1, 81, 0), (250, 0, 10, 28), (253, 1, 82, 0), (256, 2, 49, 2), (260, 2, 85, 3), (264, 1, 88, 2), (268, 1, 91, 2), (271, 1, 80, 0), (274, 2, 86, 2), (277, 1, 87, 2), (280, 1, 94, 3), (283, 1, 90, 3), (287, 1, 93, 1), (291, 1, 97, 2), (294, 1, 96, 1), (297, 1, 95, 4), (301, 1, 98, 1), (305, 0, 10, 38), (308, 1, 100, 2), (311, 1, 99, 2), (315, 0, 10, 39), (318, 2, 70, 2), (322, 1, 92, 1), (325, 1, 104, 1), (328, 1, 89, 2), (331, 1, 105, 1), (334, 1, 108, 1), (337, 1, 110, 2), (340, 1, 114, 1), (343, 1, 119, 1), (346, 1, 120, 1), (350, 1, 116, 1), (353, 1, 118, 1), (356, 0, 10, 46), (359, 1, 117, 2), (363, 1, 121, 2), (367, 0, 10, 47), (370, 1, 122, 2), (373, 1, 125, 2), (377, 0, 10, 48), (380, 0, 10, 49), (383, 1, 129, 4), (387, 1, 106, 1), (390, 1, 132, 3), (393, 1, 133, 1), (396, 1, 135, 2), (399, 2, 137, 4), (403, 2, 138, 5), (407, 1, 140, 2), (410, 0, 10, 50), (414, 0, 10, 51), (417, 0, 10, 52), (420, 1, 144, 1), (423, 2, 146, 2), (426, 1, 145, 3), (430, 0, 10, 37), (433, 1, 149, 3), (437, 1, 150, 2)], [(79, 40500), (137, 100000), (413, 1103515245)], [], [])
theorem keRX11_0 : q_cpok q_mt "BlockedCarsModel" (9, 0, 10, 3) := fun C T N h => by
    have h : some (RX11, TX11, 53) = some (C, T, N) := h
    cases h
    exact q_TB_in (q_mt6 (List.mem_of_getElem? (i := 101) rfl)) rfl
theorem keRX11_1 : q_cpok q_mt "BlockedCarsModel" (13, 0, 10, 9) := fun C T N h => by
    have h : some (RX11, TX11, 53) = some (C, T, N) := h
    cases h
    exact q_TB_in (q_mt6 (List.mem_of_getElem? (i := 107) rfl)) rfl
theorem keRX11_2 : q_cpok q_mt "BlockedCarsModel" (17, 0, 10, 10) := fun C T N h => by
    have h : some (RX11, TX11, 53) = some (C, T, N) := h
    cases h
    exact q_TB_in (q_mt6 (List.mem_of_getElem? (i := 108) rfl)) rfl
theorem keRX11_3 : q_cpok q_mt "BlockedCarsModel" (20, 0, 10, 11) := fun C T N h => by
    have h : some (RX11, TX11, 53) = some (C, T, N) := h
    cases h
    exact q_TB_in (q_mt6 (List.mem_of_getElem? (i := 109) rfl)) rfl
theorem keRX11_4 : q_cpok q_mt "BlockedCarsModel" (23, 0, 10, 12) := fun C T N h => by
    have h : some (RX11, TX11, 53) = some (C, T, N) := h
    cases h
    exact q_TB_in (q_mt6 (List.mem_of_getElem? (i := 110) rfl)) rfl
theorem keRX11_5 : q_cpok q_mt "BlockedCarsModel" (26, 0, 10, 13) := fun C T N h => by
    have h : some (RX11, TX11, 53) = some (C, T, N) := h
    cases h
    exact q_TB_in (q_mt6 (List.mem_of_getElem? (i := 111) rfl)) rfl
theorem keRX11_6 : q_cpok q_mt "BlockedCarsModel" (29, 0, 10, 14) := fun C T N h => by
    have h : some (RX11, TX11, 53) = some (C, T, N) := h
    cases h
    exact q_TB_in (q_mt6 (List.mem_of_getElem? (i := 112) rfl)) rfl
theorem keRX11_7 : q_cpok q_mt "BlockedCarsModel" (32, 0, 10, 15) := fun C T N h => by
    have h : some (RX11, TX11, 53) = some (C, T, N) := h
    cases h
    exact q_TB_in (q_mt6 (List.mem_of_getElem? (i := 113) rfl)) rfl
theorem keRX11_8 : q_cpok q_mt "BlockedCarsModel" (35, 0, 10, 16) := fun C T N h => by
    have h : some (RX11, TX11, 53) = some (C, T, N) := h
    cases h
    exact q_TB_in (q_mt6 (List.mem_of_getElem? (i := 114) rfl)) rfl
theorem keRX11_9 : q_cpok q_mt "BlockedCarsModel" (40, 0, 10, 17) := fun C T N h => by
    have h : some (RX11, TX11, 53) = some (C, T, N) := h
    cases h
    exact q_TB_in (q_mt6 (List.mem_of_getElem? (i := 115) rfl)) rfl
theorem keRX11_10 : q_cpok q_mt "BlockedCarsModel" (43, 0, 10, 18) := fun C T N h => by
    have h : some (RX11, TX11, 53) = some (C, T, N) := h
    cases h
    exact q_TB_in (q_mt6 (List.mem_of_getElem? (i := 116) rfl)) rfl
theorem keRX11_11 : q_cpok q_mt "BlockedCarsModel" (46, 0, 10, 21) := fun C T N h => by
    have h : some (RX11, TX11, 53) = some (C, T, N) := h
    cases h
    exact q_TB_in (q_mt6 (List.mem_of_getElem? (i := 119) rfl)) rfl
theorem keRX11_12 : q_cpok q_mt "BlockedCarsModel" (49, 0, 10, 22) := fun C T N h => by
    have h : some (RX11, TX11, 53) = some (C, T, N) := h
    cases h
    exact q_TB_in (q_mt6 (List.mem_of_getElem? (i := 120) rfl)) rfl
theorem keRX11_13 : q_cpok q_mt "BlockedCarsModel" (52, 0, 10, 23) := fun C T N h => by
    have h : some (RX11, TX11, 53) = some (C, T, N) := h
    cases h
    exact q_TB_in (q_mt6 (List.mem_of_getElem? (i := 121) rfl)) rfl
theorem keRX11_14 : q_cpok q_mt "BlockedCarsModel" (55, 0, 10, 24) := fun C T N h => by
    have h : some (RX11, TX11, 53) = some (C, T, N) := h
    cases h
    exact q_TB_in (q_mt6 (List.mem_of_getElem? (i := 122) rfl)) rfl
theorem keRX11_15 : q_cpok q_mt "BlockedCarsModel" (58, 0, 10, 25) := fun C T N h => by
    have h : some (RX11, TX11, 53) = some (C, T, N) := h
    cases h
    exact q_TB_in (q_mt6 (List.mem_of_getElem? (i := 123) rfl)) rfl
theorem keRX11_16 : q_cpok q_mt "BlockedCarsModel" (61, 0, 10, 26) := fun C T N h => by
    have h : some (RX11, TX11, 53) = some (C, T, N) := h
    cases h
    exact q_TB_in (q_mt6 (List.mem_of_getElem? (i := 124) rfl)) rfl
theorem keRX11_17 : q_cpok q_mt "BlockedCarsModel" (64, 0, 10, 27) := fun C T N h => by
    have h : some (RX11, TX11, 53) = some (C, T, N) := h
    cases h
    exact q_TB_in (q_mt6 (List.mem_of_getElem? (i := 125) rfl)) rfl
theorem keRX11_18 : q_cpok q_mt "BlockedCarsModel" (67, 0, 10, 29) := fun C T N h => by
    have h : some (RX11, TX11, 53) = some (C, T, N) := h
    cases h
    exact q_TB_in (q_mt6 (List.mem_of_getElem? (i := 127) rfl)) rfl
theorem keRX11_19 : q_cpok q_mt "BlockedCarsModel" (70, 0, 10, 30) := fun C T N h => by
    have h : some (RX11, TX11, 53) = some (C, T, N) := h
    cases h
    exact q_TB_in (q_mt6 (List.mem_of_getElem? (i := 128) rfl)) rfl
theorem keRX11_20 : q_cpok q_mt "BlockedCarsModel" (73, 0, 10, 31) := fun C T N h => by
    have h : some (RX11, TX11, 53) = some (C, T, N) := h
    cases h
    exact q_TB_in (q_mt6 (List.mem_of_getElem? (i := 129) rfl)) rfl
theorem keRX11_21 : q_cpok q_mt "BlockedCarsModel" (76, 0, 10, 32) := fun C T N h => by
    have h : some (RX11, TX11, 53) = some (C, T, N) := h
    cases h
    exact q_TB_in (q_mt6 (List.mem_of_getElem? (i := 130) rfl)) rfl
theorem keRX11_22 : q_cpok q_mt "BlockedCarsModel" (80, 0, 10, 40) := fun C T N h => by
    have h : some (RX11, TX11, 53) = some (C, T, N) := h
    cases h
    exact q_TB_in (q_mt6 (List.mem_of_getElem? (i := 138) rfl)) rfl
theorem keRX11_23 : q_cpok q_mt "BlockedCarsModel" (83, 0, 10, 41) := fun C T N h => by
    have h : some (RX11, TX11, 53) = some (C, T, N) := h
    cases h
    exact q_TB_in (q_mt6 (List.mem_of_getElem? (i := 139) rfl)) rfl
theorem keRX11_24 : q_cpok q_mt "BlockedCarsModel" (86, 0, 10, 42) := fun C T N h => by
    have h : some (RX11, TX11, 53) = some (C, T, N) := h
    cases h
    exact q_TB_in (q_mt6 (List.mem_of_getElem? (i := 140) rfl)) rfl
theorem keRX11_25 : q_cpok q_mt "BlockedCarsModel" (92, 0, 10, 44) := fun C T N h => by
    have h : some (RX11, TX11, 53) = some (C, T, N) := h
    cases h
    exact q_TB_in (q_mt6 (List.mem_of_getElem? (i := 142) rfl)) rfl
theorem keRX11_26 : q_cpok q_mt "BlockedCarsModel" (95, 0, 10, 45) := fun C T N h => by
    have h : some (RX11, TX11, 53) = some (C, T, N) := h
    cases h
    exact q_TB_in (q_mt6 (List.mem_of_getElem? (i := 143) rfl)) rfl
theorem keRX11_27 : q_cpok q_mt "BlockedCarsModel" (98, 1, 43, 0) := ⟨(yX11_tellsNothing, cX11_tellsNothing, 2, none), rfl, q_TB_in (q_mt6 (List.mem_of_getElem? (i := 87) rfl)) rfl, q_TB_in (q_mt6 (List.mem_of_getElem? (i := 89) rfl)) rfl, q_TB_in (q_pv3 (i := 10) rfl) rfl, q_TB_in (q_mt1 (List.mem_of_getElem? (i := 11) rfl)) rfl, q_TB_in (q_mt6 (List.mem_of_getElem? (i := 90) rfl)) rfl, ⟨by decide, by decide, by decide +kernel⟩, by decide⟩
theorem keRX11_28 : q_cpok q_mt "BlockedCarsModel" (101, 1, 71, 0) := ⟨(yX11_beginsAnew, cX11_beginsAnew, 2, none), rfl, q_TB_in (q_mt6 (List.mem_of_getElem? (i := 91) rfl)) rfl, q_TB_in (q_mt6 (List.mem_of_getElem? (i := 93) rfl)) rfl, q_TB_in (q_pv3 (i := 11) rfl) rfl, q_TB_in (q_mt1 (List.mem_of_getElem? (i := 11) rfl)) rfl, q_TB_in (q_mt6 (List.mem_of_getElem? (i := 94) rfl)) rfl, ⟨by decide, by decide, by decide +kernel⟩, by decide⟩
theorem keRX11_29 : q_cpok q_mt "BlockedCarsModel" (104, 0, 10, 0) := fun C T N h => by
    have h : some (RX11, TX11, 53) = some (C, T, N) := h
    cases h
    exact q_TB_in (q_mt6 (List.mem_of_getElem? (i := 98) rfl)) rfl
theorem keRX11_30 : q_cpok q_mt "BlockedCarsModel" (107, 0, 10, 1) := fun C T N h => by
    have h : some (RX11, TX11, 53) = some (C, T, N) := h
    cases h
    exact q_TB_in (q_mt6 (List.mem_of_getElem? (i := 99) rfl)) rfl
theorem keRX11_31 : q_cpok q_mt "BlockedCarsModel" (110, 0, 10, 2) := fun C T N h => by
    have h : some (RX11, TX11, 53) = some (C, T, N) := h
    cases h
    exact q_TB_in (q_mt6 (List.mem_of_getElem? (i := 100) rfl)) rfl
theorem keRX11_32 : q_cpok q_mt "BlockedCarsModel" (113, 0, 10, 4) := fun C T N h => by
    have h : some (RX11, TX11, 53) = some (C, T, N) := h
    cases h
    exact q_TB_in (q_mt6 (List.mem_of_getElem? (i := 102) rfl)) rfl
theorem keRX11_33 : q_cpok q_mt "BlockedCarsModel" (116, 1, 51, 1) := ⟨(yX11_byteAt, cX11_byteAt, 2, (some .int)), rfl, q_TB_in (q_mt7 (List.mem_of_getElem? (i := 45) rfl)) rfl, q_TB_in (q_mt7 (List.mem_of_getElem? (i := 47) rfl)) rfl, q_TB_in (q_pv3 (i := 15) rfl) rfl, q_TB_in (q_mt1 (List.mem_of_getElem? (i := 11) rfl)) rfl, q_TB_in (q_mt7 (List.mem_of_getElem? (i := 48) rfl)) rfl, ⟨by decide, by decide, by decide +kernel⟩, by decide⟩
theorem keRX11_34 : q_cpok q_mt "BlockedCarsModel" (120, 0, 10, 5) := fun C T N h => by
    have h : some (RX11, TX11, 53) = some (C, T, N) := h
    cases h
    exact q_TB_in (q_mt6 (List.mem_of_getElem? (i := 103) rfl)) rfl
theorem keRX11_35 : q_cpok q_mt "BlockedCarsModel" (123, 0, 10, 6) := fun C T N h => by
    have h : some (RX11, TX11, 53) = some (C, T, N) := h
    cases h
    exact q_TB_in (q_mt6 (List.mem_of_getElem? (i := 104) rfl)) rfl
theorem keRX11_36 : q_cpok q_mt "BlockedCarsModel" (126, 1, 52, 0) := ⟨(yX11_blanks, cX11_blanks, 1, none), rfl, q_TB_in (q_mt7 (List.mem_of_getElem? (i := 41) rfl)) rfl, q_TB_in (q_mt7 (List.mem_of_getElem? (i := 43) rfl)) rfl, q_TB_in (q_pv3 (i := 14) rfl) rfl, q_TB_in (q_mt1 (List.mem_of_getElem? (i := 11) rfl)) rfl, q_TB_in (q_mt7 (List.mem_of_getElem? (i := 44) rfl)) rfl, ⟨by decide, by decide, by decide +kernel⟩, by decide⟩
theorem keRX11_37 : q_cpok q_mt "BlockedCarsModel" (129, 2, 54, 1) := ⟨(yX11_isDigit, cX11_isDigit, 1, (some .boolean)), rfl, q_TB_in (q_mt7 (List.mem_of_getElem? (i := 83) rfl)) rfl, q_TB_in (q_mt7 (List.mem_of_getElem? (i := 84) rfl)) rfl, q_TB_in (q_mt1 (List.mem_of_getElem? (i := 11) rfl)) rfl, q_TB_in (q_mt7 (List.mem_of_getElem? (i := 85) rfl)) rfl, ⟨by decide, by decide, by decide +kernel⟩, by decide⟩
theorem keRX11_38 : q_cpok q_mt "BlockedCarsModel" (133, 1, 53, 2) := ⟨(yX11_wrong, cX11_wrong, 3, none), rfl, q_TB_in (q_mt7 (List.mem_of_getElem? (i := 71) rfl)) rfl, q_TB_in (q_mt7 (List.mem_of_getElem? (i := 73) rfl)) rfl, q_TB_in (q_pv4 (i := 4) rfl) rfl, q_TB_in (q_mt1 (List.mem_of_getElem? (i := 11) rfl)) rfl, q_TB_in (q_mt7 (List.mem_of_getElem? (i := 74) rfl)) rfl, ⟨by decide, by decide, by decide +kernel⟩, by decide⟩
theorem keRX11_39 : q_cpok q_mt "BlockedCarsModel" (138, 2, 46, 3) := ⟨(yX11_in, cX11_in, 3, (some .boolean)), rfl, q_TB_in (q_mt7 (List.mem_of_getElem? (i := 30) rfl)) rfl, q_TB_in (q_mt7 (List.mem_of_getElem? (i := 31) rfl)) rfl, q_TB_in (q_mt1 (List.mem_of_getElem? (i := 11) rfl)) rfl, q_TB_in (q_mt7 (List.mem_of_getElem? (i := 32) rfl)) rfl, ⟨by decide, by decide, by decide +kernel⟩, by decide⟩
theorem keRX11_40 : q_cpok q_mt "BlockedCarsModel" (142, 2, 55, 1) := ⟨(yX11_isSmall, cX11_isSmall, 1, (some .boolean)), rfl, q_TB_in (q_mt7 (List.mem_of_getElem? (i := 65) rfl)) rfl, q_TB_in (q_mt7 (List.mem_of_getElem? (i := 66) rfl)) rfl, q_TB_in (q_mt1 (List.mem_of_getElem? (i := 11) rfl)) rfl, q_TB_in (q_mt7 (List.mem_of_getElem? (i := 67) rfl)) rfl, ⟨by decide, by decide, by decide +kernel⟩, by decide⟩
theorem keRX11_41 : q_cpok q_mt "BlockedCarsModel" (145, 1, 57, 0) := ⟨(yX11_wordHere, cX11_wordHere, 3, (some .int)), rfl, q_TB_in (q_mt7 (List.mem_of_getElem? (i := 61) rfl)) rfl, q_TB_in (q_mt7 (List.mem_of_getElem? (i := 63) rfl)) rfl, q_TB_in (q_pv4 (i := 3) rfl) rfl, q_TB_in (q_mt1 (List.mem_of_getElem? (i := 11) rfl)) rfl, q_TB_in (q_mt7 (List.mem_of_getElem? (i := 64) rfl)) rfl, ⟨by decide, by decide, by decide +kernel⟩, by decide⟩
theorem keRX11_42 : q_cpok q_mt "BlockedCarsModel" (149, 2, 58, 6) := ⟨(yX11_six, cX11_six, 7, (some .int)), rfl, q_TB_in (q_mt7 (List.mem_of_getElem? (i := 68) rfl)) rfl, q_TB_in (q_mt7 (List.mem_of_getElem? (i := 69) rfl)) rfl, q_TB_in (q_mt1 (List.mem_of_getElem? (i := 11) rfl)) rfl, q_TB_in (q_mt7 (List.mem_of_getElem? (i := 70) rfl)) rfl, ⟨by decide, by decide, by decide +kernel⟩, by decide⟩
theorem keRX11_43 : q_cpok q_mt "BlockedCarsModel" (153, 1, 59, 6) := ⟨(yX11_isWord, cX11_isWord, 7, (some .boolean)), rfl, q_TB_in (q_mt7 (List.mem_of_getElem? (i := 57) rfl)) rfl, q_TB_in (q_mt7 (List.mem_of_getElem? (i := 59) rfl)) rfl, q_TB_in (q_pv4 (i := 2) rfl) rfl, q_TB_in (q_mt1 (List.mem_of_getElem? (i := 11) rfl)) rfl, q_TB_in (q_mt7 (List.mem_of_getElem? (i := 60) rfl)) rfl, ⟨by decide, by decide, by decide +kernel⟩, by decide⟩
theorem keRX11_44 : q_cpok q_mt "BlockedCarsModel" (157, 1, 60, 0) := ⟨(yX11_skipWord, cX11_skipWord, 1, none), rfl, q_TB_in (q_mt7 (List.mem_of_getElem? (i := 75) rfl)) rfl, q_TB_in (q_mt7 (List.mem_of_getElem? (i := 77) rfl)) rfl, q_TB_in (q_pv4 (i := 5) rfl) rfl, q_TB_in (q_mt1 (List.mem_of_getElem? (i := 11) rfl)) rfl, q_TB_in (q_mt7 (List.mem_of_getElem? (i := 78) rfl)) rfl, ⟨by decide, by decide, by decide +kernel⟩, by decide⟩
theorem keRX11_45 : q_cpok q_mt "BlockedCarsModel" (160, 0, 10, 7) := fun C T N h => by
    have h : some (RX11, TX11, 53) = some (C, T, N) := h
    cases h
    exact q_TB_in (q_mt6 (List.mem_of_getElem? (i := 105) rfl)) rfl
theorem keRX11_46 : q_cpok q_mt "BlockedCarsModel" (163, 0, 10, 8) := fun C T N h => by
    have h : some (RX11, TX11, 53) = some (C, T, N) := h
    cases h
    exact q_TB_in (q_mt6 (List.mem_of_getElem? (i := 106) rfl)) rfl
theorem keRX11_47 : q_cpok q_mt "BlockedCarsModel" (166, 1, 66, 0) := ⟨(yX11_kindHere, cX11_kindHere, 1, (some .int)), rfl, q_TB_in (q_mt7 (List.mem_of_getElem? (i := 53) rfl)) rfl, q_TB_in (q_mt7 (List.mem_of_getElem? (i := 55) rfl)) rfl, q_TB_in (q_pv4 (i := 1) rfl) rfl, q_TB_in (q_mt1 (List.mem_of_getElem? (i := 11) rfl)) rfl, q_TB_in (q_mt7 (List.mem_of_getElem? (i := 56) rfl)) rfl, ⟨by decide, by decide, by decide +kernel⟩, by decide⟩
theorem keRX11_48 : q_cpok q_mt "BlockedCarsModel" (169, 1, 56, 2) := ⟨(yX11_number, cX11_number, 5, (some .int)), rfl, q_TB_in (q_mt7 (List.mem_of_getElem? (i := 79) rfl)) rfl, q_TB_in (q_mt7 (List.mem_of_getElem? (i := 81) rfl)) rfl, q_TB_in (q_pv4 (i := 6) rfl) rfl, q_TB_in (q_mt1 (List.mem_of_getElem? (i := 11) rfl)) rfl, q_TB_in (q_mt7 (List.mem_of_getElem? (i := 82) rfl)) rfl, ⟨by decide, by decide, by decide +kernel⟩, by decide⟩
theorem keRX11_49 : q_cpok q_mt "BlockedCarsModel" (173, 1, 62, 1) := ⟨(yX11_sign, cX11_sign, 2, none), rfl, q_TB_in (q_mt7 (List.mem_of_getElem? (i := 87) rfl)) rfl, q_TB_in (q_mt7 (List.mem_of_getElem? (i := 89) rfl)) rfl, q_TB_in (q_pv4 (i := 7) rfl) rfl, q_TB_in (q_mt1 (List.mem_of_getElem? (i := 11) rfl)) rfl, q_TB_in (q_mt7 (List.mem_of_getElem? (i := 90) rfl)) rfl, ⟨by decide, by decide, by decide +kernel⟩, by decide⟩
theorem keRX11_50 : q_cpok q_mt "BlockedCarsModel" (177, 1, 45, 3) := ⟨(yX11_bad, cX11_bad, 4, (some .boolean)), rfl, q_TB_in (q_mt7 (List.mem_of_getElem? (i := 33) rfl)) rfl, q_TB_in (q_mt7 (List.mem_of_getElem? (i := 35) rfl)) rfl, q_TB_in (q_pv3 (i := 12) rfl) rfl, q_TB_in (q_mt1 (List.mem_of_getElem? (i := 11) rfl)) rfl, q_TB_in (q_mt7 (List.mem_of_getElem? (i := 36) rfl)) rfl, ⟨by decide, by decide, by decide +kernel⟩, by decide⟩
theorem keRX11_51 : q_cpok q_mt "BlockedCarsModel" (181, 1, 64, 1) := ⟨(yX11_starts, cX11_starts, 2, none), rfl, q_TB_in (q_mt7 (List.mem_of_getElem? (i := 37) rfl)) rfl, q_TB_in (q_mt7 (List.mem_of_getElem? (i := 39) rfl)) rfl, q_TB_in (q_pv3 (i := 13) rfl) rfl, q_TB_in (q_mt1 (List.mem_of_getElem? (i := 11) rfl)) rfl, q_TB_in (q_mt7 (List.mem_of_getElem? (i := 40) rfl)) rfl, ⟨by decide, by decide, by decide +kernel⟩, by decide⟩
theorem keRX11_52 : q_cpok q_mt "BlockedCarsModel" (184, 1, 67, 0) := ⟨(yX11_clause, cX11_clause, 4, none), rfl, q_TB_in (q_mt7 (List.mem_of_getElem? (i := 49) rfl)) rfl, q_TB_in (q_mt7 (List.mem_of_getElem? (i := 51) rfl)) rfl, q_TB_in (q_pv4 (i := 0) rfl) rfl, q_TB_in (q_mt1 (List.mem_of_getElem? (i := 11) rfl)) rfl, q_TB_in (q_mt7 (List.mem_of_getElem? (i := 52) rfl)) rfl, ⟨by decide, by decide, by decide +kernel⟩, by decide⟩
theorem keRX11_53 : q_cpok q_mt "BlockedCarsModel" (187, 1, 65, 0) := ⟨(yX11_ends, cX11_ends, 1, (some .int)), rfl, q_TB_in (q_mt7 (List.mem_of_getElem? (i := 91) rfl)) rfl, q_TB_in (q_mt7 (List.mem_of_getElem? (i := 93) rfl)) rfl, q_TB_in (q_pv4 (i := 8) rfl) rfl, q_TB_in (q_mt1 (List.mem_of_getElem? (i := 11) rfl)) rfl, q_TB_in (q_mt7 (List.mem_of_getElem? (i := 94) rfl)) rfl, ⟨by decide, by decide, by decide +kernel⟩, by decide⟩
theorem keRX11_54 : q_cpok q_mt "BlockedCarsModel" (190, 2, 69, 3) := ⟨(yX11_lays, cX11_lays, 5, none), rfl, q_TB_in (q_mt6 (List.mem_of_getElem? (i := 95) rfl)) rfl, q_TB_in (q_mt6 (List.mem_of_getElem? (i := 96) rfl)) rfl, q_TB_in (q_mt1 (List.mem_of_getElem? (i := 11) rfl)) rfl, q_TB_in (q_mt6 (List.mem_of_getElem? (i := 97) rfl)) rfl, ⟨by decide, by decide, by decide +kernel⟩, by decide⟩
theorem keRX11_55 : q_cpok q_mt "BlockedCarsModel" (194, 0, 10, 19) := fun C T N h => by
    have h : some (RX11, TX11, 53) = some (C, T, N) := h
    cases h
    exact q_TB_in (q_mt6 (List.mem_of_getElem? (i := 117) rfl)) rfl
theorem keRX11_56 : q_cpok q_mt "BlockedCarsModel" (197, 0, 10, 33) := fun C T N h => by
    have h : some (RX11, TX11, 53) = some (C, T, N) := h
    cases h
    exact q_TB_in (q_mt6 (List.mem_of_getElem? (i := 131) rfl)) rfl
theorem keRX11_57 : q_cpok q_mt "BlockedCarsModel" (200, 0, 10, 34) := fun C T N h => by
    have h : some (RX11, TX11, 53) = some (C, T, N) := h
    cases h
    exact q_TB_in (q_mt6 (List.mem_of_getElem? (i := 132) rfl)) rfl
theorem keRX11_58 : q_cpok q_mt "BlockedCarsModel" (203, 0, 10, 35) := fun C T N h => by
    have h : some (RX11, TX11, 53) = some (C, T, N) := h
    cases h
    exact q_TB_in (q_mt6 (List.mem_of_getElem? (i := 133) rfl)) rfl
theorem keRX11_59 : q_cpok q_mt "BlockedCarsModel" (206, 0, 10, 36) := fun C T N h => by
    have h : some (RX11, TX11, 53) = some (C, T, N) := h
    cases h
    exact q_TB_in (q_mt6 (List.mem_of_getElem? (i := 134) rfl)) rfl
theorem keRX11_60 : q_cpok q_mt "BlockedCarsModel" (209, 0, 10, 20) := fun C T N h => by
    have h : some (RX11, TX11, 53) = some (C, T, N) := h
    cases h
    exact q_TB_in (q_mt6 (List.mem_of_getElem? (i := 118) rfl)) rfl
theorem keRX11_61 : q_cpok q_mt "BlockedCarsModel" (212, 1, 75, 0) := ⟨(yX11_product, cX11_product, 2, none), rfl, q_TB_in (q_mt7 (List.mem_of_getElem? (i := 103) rfl)) rfl, q_TB_in (q_mt7 (List.mem_of_getElem? (i := 105) rfl)) rfl, q_TB_in (q_pv4 (i := 10) rfl) rfl, q_TB_in (q_mt1 (List.mem_of_getElem? (i := 11) rfl)) rfl, q_TB_in (q_mt7 (List.mem_of_getElem? (i := 106) rfl)) rfl, ⟨by decide, by decide, by decide +kernel⟩, by decide⟩
theorem keRX11_62 : q_cpok q_mt "BlockedCarsModel" (215, 1, 63, 1) := ⟨(yX11_takesSign, cX11_takesSign, 3, (some .boolean)), rfl, q_TB_in (q_mt7 (List.mem_of_getElem? (i := 127) rfl)) rfl, q_TB_in (q_mt7 (List.mem_of_getElem? (i := 129) rfl)) rfl, q_TB_in (q_pv5 (i := 0) rfl) rfl, q_TB_in (q_mt1 (List.mem_of_getElem? (i := 11) rfl)) rfl, q_TB_in (q_mt7 (List.mem_of_getElem? (i := 130) rfl)) rfl, ⟨by decide, by decide, by decide +kernel⟩, by decide⟩
theorem keRX11_63 : q_cpok q_mt "BlockedCarsModel" (218, 1, 72, 2) := ⟨(yX11_notes, cX11_notes, 3, none), rfl, q_TB_in (q_mt7 (List.mem_of_getElem? (i := 115) rfl)) rfl, q_TB_in (q_mt7 (List.mem_of_getElem? (i := 117) rfl)) rfl, q_TB_in (q_pv4 (i := 13) rfl) rfl, q_TB_in (q_mt1 (List.mem_of_getElem? (i := 11) rfl)) rfl, q_TB_in (q_mt7 (List.mem_of_getElem? (i := 118) rfl)) rfl, ⟨by decide, by decide, by decide +kernel⟩, by decide⟩
theorem keRX11_64 : q_cpok q_mt "BlockedCarsModel" (221, 1, 77, 0) := ⟨(yX11_one, cX11_one, 3, none), rfl, q_TB_in (q_mt7 (List.mem_of_getElem? (i := 107) rfl)) rfl, q_TB_in (q_mt7 (List.mem_of_getElem? (i := 109) rfl)) rfl, q_TB_in (q_pv4 (i := 11) rfl) rfl, q_TB_in (q_mt1 (List.mem_of_getElem? (i := 11) rfl)) rfl, q_TB_in (q_mt7 (List.mem_of_getElem? (i := 110) rfl)) rfl, ⟨by decide, by decide, by decide +kernel⟩, by decide⟩
theorem keRX11_65 : q_cpok q_mt "BlockedCarsModel" (224, 1, 61, 6) := ⟨(yX11_takes, cX11_takes, 8, (some .boolean)), rfl, q_TB_in (q_mt7 (List.mem_of_getElem? (i := 123) rfl)) rfl, q_TB_in (q_mt7 (List.mem_of_getElem? (i := 125) rfl)) rfl, q_TB_in (q_pv4 (i := 15) rfl) rfl, q_TB_in (q_mt1 (List.mem_of_getElem? (i := 11) rfl)) rfl, q_TB_in (q_mt7 (List.mem_of_getElem? (i := 126) rfl)) rfl, ⟨by decide, by decide, by decide +kernel⟩, by decide⟩
theorem keRX11_66 : q_cpok q_mt "BlockedCarsModel" (227, 1, 73, 0) := ⟨(yX11_opensOne, cX11_opensOne, 1, (some .boolean)), rfl, q_TB_in (q_mt7 (List.mem_of_getElem? (i := 111) rfl)) rfl, q_TB_in (q_mt7 (List.mem_of_getElem? (i := 113) rfl)) rfl, q_TB_in (q_pv4 (i := 12) rfl) rfl, q_TB_in (q_mt1 (List.mem_of_getElem? (i := 11) rfl)) rfl, q_TB_in (q_mt7 (List.mem_of_getElem? (i := 114) rfl)) rfl, ⟨by decide, by decide, by decide +kernel⟩, by decide⟩
theorem keRX11_67 : q_cpok q_mt "BlockedCarsModel" (231, 1, 74, 0) := ⟨(yX11_sum, cX11_sum, 2, none), rfl, q_TB_in (q_mt7 (List.mem_of_getElem? (i := 99) rfl)) rfl, q_TB_in (q_mt7 (List.mem_of_getElem? (i := 101) rfl)) rfl, q_TB_in (q_pv4 (i := 9) rfl) rfl, q_TB_in (q_mt1 (List.mem_of_getElem? (i := 11) rfl)) rfl, q_TB_in (q_mt7 (List.mem_of_getElem? (i := 102) rfl)) rfl, ⟨by decide, by decide, by decide +kernel⟩, by decide⟩
theorem keRX11_68 : q_cpok q_mt "BlockedCarsModel" (234, 1, 76, 0) := ⟨(yX11_knownHere, cX11_knownHere, 1, (some .int)), rfl, q_TB_in (q_mt7 (List.mem_of_getElem? (i := 119) rfl)) rfl, q_TB_in (q_mt7 (List.mem_of_getElem? (i := 121) rfl)) rfl, q_TB_in (q_pv4 (i := 14) rfl) rfl, q_TB_in (q_mt1 (List.mem_of_getElem? (i := 11) rfl)) rfl, q_TB_in (q_mt7 (List.mem_of_getElem? (i := 122) rfl)) rfl, ⟨by decide, by decide, by decide +kernel⟩, by decide⟩
theorem keRX11_69 : q_cpok q_mt "BlockedCarsModel" (237, 2, 47, 2) := ⟨(yX11_less, cX11_less, 2, (some .int)), rfl, q_TB_in (q_mt7 (List.mem_of_getElem? (i := 198) rfl)) rfl, q_TB_in (q_mt7 (List.mem_of_getElem? (i := 199) rfl)) rfl, q_TB_in (q_mt1 (List.mem_of_getElem? (i := 11) rfl)) rfl, q_TB_in (q_mt7 (List.mem_of_getElem? (i := 200) rfl)) rfl, ⟨by decide, by decide, by decide +kernel⟩, by decide⟩
theorem keRX11_70 : q_cpok q_mt "BlockedCarsModel" (240, 2, 48, 2) := ⟨(yX11_more, cX11_more, 2, (some .int)), rfl, q_TB_in (q_mt7 (List.mem_of_getElem? (i := 201) rfl)) rfl, q_TB_in (q_mt7 (List.mem_of_getElem? (i := 202) rfl)) rfl, q_TB_in (q_mt1 (List.mem_of_getElem? (i := 11) rfl)) rfl, q_TB_in (q_mt7 (List.mem_of_getElem? (i := 203) rfl)) rfl, ⟨by decide, by decide, by decide +kernel⟩, by decide⟩
theorem keRX11_71 : q_cpok q_mt "BlockedCarsModel" (243, 2, 79, 3) := ⟨(yX11_by, cX11_by, 3, (some .int)), rfl, q_TB_in (q_mt7 (List.mem_of_getElem? (i := 195) rfl)) rfl, q_TB_in (q_mt7 (List.mem_of_getElem? (i := 196) rfl)) rfl, q_TB_in (q_mt1 (List.mem_of_getElem? (i := 11) rfl)) rfl, q_TB_in (q_mt7 (List.mem_of_getElem? (i := 197) rfl)) rfl, ⟨by decide, by decide, by decide +kernel⟩, by decide⟩
theorem keRX11_72 : q_cpok q_mt "BlockedCarsModel" (247, 1, 81, 0) := ⟨(yX11_stepHere, cX11_stepHere, 1, (some .int)), rfl, q_TB_in (q_mt7 (List.mem_of_getElem? (i := 150) rfl)) rfl, q_TB_in (q_mt7 (List.mem_of_getElem? (i := 152) rfl)) rfl, q_TB_in (q_pv5 (i := 2) rfl) rfl, q_TB_in (q_mt1 (List.mem_of_getElem? (i := 11) rfl)) rfl, q_TB_in (q_mt7 (List.mem_of_getElem? (i := 153) rfl)) rfl, ⟨by decide, by decide, by decide +kernel⟩, by decide⟩
theorem keRX11_73 : q_cpok q_mt "BlockedCarsModel" (250, 0, 10, 28) := fun C T N h => by
    have h : some (RX11, TX11, 53) = some (C, T, N) := h
    cases h
    exact q_TB_in (q_mt6 (List.mem_of_getElem? (i := 126) rfl)) rfl
theorem keRX11_74 : q_cpok q_mt "BlockedCarsModel" (253, 1, 82, 0) := ⟨(yX11_readsStep, cX11_readsStep, 3, none), rfl, q_TB_in (q_mt7 (List.mem_of_getElem? (i := 146) rfl)) rfl, q_TB_in (q_mt7 (List.mem_of_getElem? (i := 148) rfl)) rfl, q_TB_in (q_pv5 (i := 1) rfl) rfl, q_TB_in (q_mt1 (List.mem_of_getElem? (i := 11) rfl)) rfl, q_TB_in (q_mt7 (List.mem_of_getElem? (i := 149) rfl)) rfl, ⟨by decide, by decide, by decide +kernel⟩, by decide⟩
theorem keRX11_75 : q_cpok q_mt "BlockedCarsModel" (256, 2, 49, 2) := ⟨(yX11_has, cX11_has, 2, (some .boolean)), rfl, q_TB_in (q_mt7 (List.mem_of_getElem? (i := 135) rfl)) rfl, q_TB_in (q_mt7 (List.mem_of_getElem? (i := 136) rfl)) rfl, q_TB_in (q_mt1 (List.mem_of_getElem? (i := 11) rfl)) rfl, q_TB_in (q_mt7 (List.mem_of_getElem? (i := 137) rfl)) rfl, ⟨by decide, by decide, by decide +kernel⟩, by decide⟩
theorem keRX11_76 : q_cpok q_mt "BlockedCarsModel" (260, 2, 85, 3) := ⟨(yX11_standing, cX11_standing, 3, (some .int)), rfl, q_TB_in (q_mt7 (List.mem_of_getElem? (i := 169) rfl)) rfl, q_TB_in (q_mt7 (List.mem_of_getElem? (i := 170) rfl)) rfl, q_TB_in (q_mt1 (List.mem_of_getElem? (i := 11) rfl)) rfl, q_TB_in (q_mt7 (List.mem_of_getElem? (i := 171) rfl)) rfl, ⟨by decide, by decide, by decide +kernel⟩, by decide⟩
theorem keRX11_77 : q_cpok q_mt "BlockedCarsModel" (264, 1, 88, 2) := ⟨(yX11_laneOf, cX11_laneOf, 5, (some .int)), rfl, q_TB_in (q_mt7 (List.mem_of_getElem? (i := 165) rfl)) rfl, q_TB_in (q_mt7 (List.mem_of_getElem? (i := 167) rfl)) rfl, q_TB_in (q_pv5 (i := 5) rfl) rfl, q_TB_in (q_mt1 (List.mem_of_getElem? (i := 11) rfl)) rfl, q_TB_in (q_mt7 (List.mem_of_getElem? (i := 168) rfl)) rfl, ⟨by decide, by decide, by decide +kernel⟩, by decide⟩
theorem keRX11_78 : q_cpok q_mt "BlockedCarsModel" (268, 1, 91, 2) := ⟨(yX11_isLater, cX11_isLater, 3, (some .boolean)), rfl, q_TB_in (q_mt7 (List.mem_of_getElem? (i := 232) rfl)) rfl, q_TB_in (q_mt7 (List.mem_of_getElem? (i := 234) rfl)) rfl, q_TB_in (q_pv6 (i := 0) rfl) rfl, q_TB_in (q_mt1 (List.mem_of_getElem? (i := 11) rfl)) rfl, q_TB_in (q_mt7 (List.mem_of_getElem? (i := 235) rfl)) rfl, ⟨by decide, by decide, by decide +kernel⟩, by decide⟩
theorem keRX11_79 : q_cpok q_mt "BlockedCarsModel" (271, 1, 80, 0) := ⟨(yX11_byLaw, cX11_byLaw, 3, (some .int)), rfl, q_TB_in (q_mt7 (List.mem_of_getElem? (i := 191) rfl)) rfl, q_TB_in (q_mt7 (List.mem_of_getElem? (i := 193) rfl)) rfl, q_TB_in (q_pv5 (i := 10) rfl) rfl, q_TB_in (q_mt1 (List.mem_of_getElem? (i := 11) rfl)) rfl, q_TB_in (q_mt7 (List.mem_of_getElem? (i := 194) rfl)) rfl, ⟨by decide, by decide, by decide +kernel⟩, by decide⟩
theorem keRX11_80 : q_cpok q_mt "BlockedCarsModel" (274, 2, 86, 2) := ⟨(yX11_frontOf, cX11_frontOf, 2, (some .int)), rfl, q_TB_in (q_mt7 (List.mem_of_getElem? (i := 184) rfl)) rfl, q_TB_in (q_mt7 (List.mem_of_getElem? (i := 185) rfl)) rfl, q_TB_in (q_mt1 (List.mem_of_getElem? (i := 11) rfl)) rfl, q_TB_in (q_mt7 (List.mem_of_getElem? (i := 186) rfl)) rfl, ⟨by decide, by decide, by decide +kernel⟩, by decide⟩
theorem keRX11_81 : q_cpok q_mt "BlockedCarsModel" (277, 1, 87, 2) := ⟨(yX11_roomOf, cX11_roomOf, 5, (some .int)), rfl, q_TB_in (q_mt7 (List.mem_of_getElem? (i := 172) rfl)) rfl, q_TB_in (q_mt7 (List.mem_of_getElem? (i := 174) rfl)) rfl, q_TB_in (q_pv5 (i := 6) rfl) rfl, q_TB_in (q_mt1 (List.mem_of_getElem? (i := 11) rfl)) rfl, q_TB_in (q_mt7 (List.mem_of_getElem? (i := 175) rfl)) rfl, ⟨by decide, by decide, by decide +kernel⟩, by decide⟩
theorem keRX11_82 : q_cpok q_mt "BlockedCarsModel" (280, 1, 94, 3) := ⟨(yX11_secondsOf, cX11_secondsOf, 5, (some .int)), rfl, q_TB_in (q_mt7 (List.mem_of_getElem? (i := 187) rfl)) rfl, q_TB_in (q_mt7 (List.mem_of_getElem? (i := 189) rfl)) rfl, q_TB_in (q_pv5 (i := 9) rfl) rfl, q_TB_in (q_mt1 (List.mem_of_getElem? (i := 11) rfl)) rfl, q_TB_in (q_mt7 (List.mem_of_getElem? (i := 190) rfl)) rfl, ⟨by decide, by decide, by decide +kernel⟩, by decide⟩
theorem keRX11_83 : q_cpok q_mt "BlockedCarsModel" (283, 1, 90, 3) := ⟨(yX11_comesTo, cX11_comesTo, 4, none), rfl, q_TB_in (q_mt7 (List.mem_of_getElem? (i := 176) rfl)) rfl, q_TB_in (q_mt7 (List.mem_of_getElem? (i := 178) rfl)) rfl, q_TB_in (q_pv5 (i := 7) rfl) rfl, q_TB_in (q_mt1 (List.mem_of_getElem? (i := 11) rfl)) rfl, q_TB_in (q_mt7 (List.mem_of_getElem? (i := 179) rfl)) rfl, ⟨by decide, by decide, by decide +kernel⟩, by decide⟩
theorem keRX11_84 : q_cpok q_mt "BlockedCarsModel" (287, 1, 93, 1) := ⟨(yX11_insideOf, cX11_insideOf, 5, (some .int)), rfl, q_TB_in (q_mt7 (List.mem_of_getElem? (i := 212) rfl)) rfl, q_TB_in (q_mt7 (List.mem_of_getElem? (i := 214) rfl)) rfl, q_TB_in (q_pv5 (i := 13) rfl) rfl, q_TB_in (q_mt1 (List.mem_of_getElem? (i := 11) rfl)) rfl, q_TB_in (q_mt7 (List.mem_of_getElem? (i := 215) rfl)) rfl, ⟨by decide, by decide, by decide +kernel⟩, by decide⟩
theorem keRX11_85 : q_cpok q_mt "BlockedCarsModel" (291, 1, 97, 2) := ⟨(yX11_latestOut, cX11_latestOut, 6, (some .int)), rfl, q_TB_in (q_mt7 (List.mem_of_getElem? (i := 208) rfl)) rfl, q_TB_in (q_mt7 (List.mem_of_getElem? (i := 210) rfl)) rfl, q_TB_in (q_pv5 (i := 12) rfl) rfl, q_TB_in (q_mt1 (List.mem_of_getElem? (i := 11) rfl)) rfl, q_TB_in (q_mt7 (List.mem_of_getElem? (i := 211) rfl)) rfl, ⟨by decide, by decide, by decide +kernel⟩, by decide⟩
theorem keRX11_86 : q_cpok q_mt "BlockedCarsModel" (294, 1, 96, 1) := ⟨(yX11_roomiest, cX11_roomiest, 4, (some .int)), rfl, q_TB_in (q_mt7 (List.mem_of_getElem? (i := 216) rfl)) rfl, q_TB_in (q_mt7 (List.mem_of_getElem? (i := 218) rfl)) rfl, q_TB_in (q_pv5 (i := 14) rfl) rfl, q_TB_in (q_mt1 (List.mem_of_getElem? (i := 11) rfl)) rfl, q_TB_in (q_mt7 (List.mem_of_getElem? (i := 219) rfl)) rfl, ⟨by decide, by decide, by decide +kernel⟩, by decide⟩
theorem keRX11_87 : q_cpok q_mt "BlockedCarsModel" (297, 1, 95, 4) := ⟨(yX11_moves, cX11_moves, 6, (some .boolean)), rfl, q_TB_in (q_mt7 (List.mem_of_getElem? (i := 180) rfl)) rfl, q_TB_in (q_mt7 (List.mem_of_getElem? (i := 182) rfl)) rfl, q_TB_in (q_pv5 (i := 8) rfl) rfl, q_TB_in (q_mt1 (List.mem_of_getElem? (i := 11) rfl)) rfl, q_TB_in (q_mt7 (List.mem_of_getElem? (i := 183) rfl)) rfl, ⟨by decide, by decide, by decide +kernel⟩, by decide⟩
theorem keRX11_88 : q_cpok q_mt "BlockedCarsModel" (301, 1, 98, 1) := ⟨(yX11_swaps, cX11_swaps, 6, (some .boolean)), rfl, q_TB_in (q_mt7 (List.mem_of_getElem? (i := 204) rfl)) rfl, q_TB_in (q_mt7 (List.mem_of_getElem? (i := 206) rfl)) rfl, q_TB_in (q_pv5 (i := 11) rfl) rfl, q_TB_in (q_mt1 (List.mem_of_getElem? (i := 11) rfl)) rfl, q_TB_in (q_mt7 (List.mem_of_getElem? (i := 207) rfl)) rfl, ⟨by decide, by decide, by decide +kernel⟩, by decide⟩
theorem keRX11_89 : q_cpok q_mt "BlockedCarsModel" (305, 0, 10, 38) := fun C T N h => by
    have h : some (RX11, TX11, 53) = some (C, T, N) := h
    cases h
    exact q_TB_in (q_mt6 (List.mem_of_getElem? (i := 136) rfl)) rfl
theorem keRX11_90 : q_cpok q_mt "BlockedCarsModel" (308, 1, 100, 2) := ⟨(yX11_goesOn, cX11_goesOn, 5, none), rfl, q_TB_in (q_mt7 (List.mem_of_getElem? (i := 157) rfl)) rfl, q_TB_in (q_mt7 (List.mem_of_getElem? (i := 159) rfl)) rfl, q_TB_in (q_pv5 (i := 3) rfl) rfl, q_TB_in (q_mt1 (List.mem_of_getElem? (i := 11) rfl)) rfl, q_TB_in (q_mt7 (List.mem_of_getElem? (i := 160) rfl)) rfl, ⟨by decide, by decide, by decide +kernel⟩, by decide⟩
theorem keRX11_91 : q_cpok q_mt "BlockedCarsModel" (311, 1, 99, 2) := ⟨(yX11_does, cX11_does, 4, (some .boolean)), rfl, q_TB_in (q_mt7 (List.mem_of_getElem? (i := 161) rfl)) rfl, q_TB_in (q_mt7 (List.mem_of_getElem? (i := 163) rfl)) rfl, q_TB_in (q_pv5 (i := 4) rfl) rfl, q_TB_in (q_mt1 (List.mem_of_getElem? (i := 11) rfl)) rfl, q_TB_in (q_mt7 (List.mem_of_getElem? (i := 164) rfl)) rfl, ⟨by decide, by decide, by decide +kernel⟩, by decide⟩
theorem keRX11_92 : q_cpok q_mt "BlockedCarsModel" (315, 0, 10, 39) := fun C T N h => by
    have h : some (RX11, TX11, 53) = some (C, T, N) := h
    cases h
    exact q_TB_in (q_mt6 (List.mem_of_getElem? (i := 137) rfl)) rfl
theorem keRX11_93 : q_cpok q_mt "BlockedCarsModel" (318, 2, 70, 2) := ⟨(yX11_copies, cX11_copies, 3, none), rfl, q_TB_in (q_mt7 (List.mem_of_getElem? (i := 154) rfl)) rfl, q_TB_in (q_mt7 (List.mem_of_getElem? (i := 155) rfl)) rfl, q_TB_in (q_mt1 (List.mem_of_getElem? (i := 11) rfl)) rfl, q_TB_in (q_mt7 (List.mem_of_getElem? (i := 156) rfl)) rfl, ⟨by decide, by decide, by decide +kernel⟩, by decide⟩
theorem keRX11_94 : q_cpok q_mt "BlockedCarsModel" (322, 1, 92, 1) := ⟨(yX11_pairsIn, cX11_pairsIn, 6, (some .int)), rfl, q_TB_in (q_mt7 (List.mem_of_getElem? (i := 228) rfl)) rfl, q_TB_in (q_mt7 (List.mem_of_getElem? (i := 230) rfl)) rfl, q_TB_in (q_pv5 (i := 15) rfl) rfl, q_TB_in (q_mt1 (List.mem_of_getElem? (i := 11) rfl)) rfl, q_TB_in (q_mt7 (List.mem_of_getElem? (i := 231) rfl)) rfl, ⟨by decide, by decide, by decide +kernel⟩, by decide⟩
theorem keRX11_95 : q_cpok q_mt "BlockedCarsModel" (325, 1, 104, 1) := ⟨(yX11_isLane, cX11_isLane, 2, (some .boolean)), rfl, q_TB_in (q_mt8 (List.mem_of_getElem? (i := 0) rfl)) rfl, q_TB_in (q_mt8 (List.mem_of_getElem? (i := 2) rfl)) rfl, q_TB_in (q_pv6 (i := 1) rfl) rfl, q_TB_in (q_mt1 (List.mem_of_getElem? (i := 11) rfl)) rfl, q_TB_in (q_mt8 (List.mem_of_getElem? (i := 3) rfl)) rfl, ⟨by decide, by decide, by decide +kernel⟩, by decide⟩
theorem keRX11_96 : q_cpok q_mt "BlockedCarsModel" (328, 1, 89, 2) := ⟨(yX11_rankOf, cX11_rankOf, 5, (some .int)), rfl, q_TB_in (q_mt8 (List.mem_of_getElem? (i := 16) rfl)) rfl, q_TB_in (q_mt8 (List.mem_of_getElem? (i := 18) rfl)) rfl, q_TB_in (q_pv6 (i := 4) rfl) rfl, q_TB_in (q_mt1 (List.mem_of_getElem? (i := 11) rfl)) rfl, q_TB_in (q_mt8 (List.mem_of_getElem? (i := 19) rfl)) rfl, ⟨by decide, by decide, by decide +kernel⟩, by decide⟩
theorem keRX11_97 : q_cpok q_mt "BlockedCarsModel" (331, 1, 105, 1) := ⟨(yX11_isCar, cX11_isCar, 2, (some .boolean)), rfl, q_TB_in (q_mt8 (List.mem_of_getElem? (i := 8) rfl)) rfl, q_TB_in (q_mt8 (List.mem_of_getElem? (i := 10) rfl)) rfl, q_TB_in (q_pv6 (i := 2) rfl) rfl, q_TB_in (q_mt1 (List.mem_of_getElem? (i := 11) rfl)) rfl, q_TB_in (q_mt8 (List.mem_of_getElem? (i := 11) rfl)) rfl, ⟨by decide, by decide, by decide +kernel⟩, by decide⟩
theorem keRX11_98 : q_cpok q_mt "BlockedCarsModel" (334, 1, 108, 1) := ⟨(yX11_firstPlace, cX11_firstPlace, 5, (some .int)), rfl, q_TB_in (q_mt8 (List.mem_of_getElem? (i := 12) rfl)) rfl, q_TB_in (q_mt8 (List.mem_of_getElem? (i := 14) rfl)) rfl, q_TB_in (q_pv6 (i := 3) rfl) rfl, q_TB_in (q_mt1 (List.mem_of_getElem? (i := 11) rfl)) rfl, q_TB_in (q_mt8 (List.mem_of_getElem? (i := 15) rfl)) rfl, ⟨by decide, by decide, by decide +kernel⟩, by decide⟩
theorem keRX11_99 : q_cpok q_mt "BlockedCarsModel" (337, 1, 110, 2) := ⟨(yX11_onPlace, cX11_onPlace, 4, (some .int)), rfl, q_TB_in (q_mt8 (List.mem_of_getElem? (i := 24) rfl)) rfl, q_TB_in (q_mt8 (List.mem_of_getElem? (i := 26) rfl)) rfl, q_TB_in (q_pv6 (i := 5) rfl) rfl, q_TB_in (q_mt1 (List.mem_of_getElem? (i := 11) rfl)) rfl, q_TB_in (q_mt8 (List.mem_of_getElem? (i := 27) rfl)) rfl, ⟨by decide, by decide, by decide +kernel⟩, by decide⟩
theorem keRX11_100 : q_cpok q_mt "BlockedCarsModel" (340, 1, 114, 1) := ⟨(yX11_aheadOf, cX11_aheadOf, 5, (some .int)), rfl, q_TB_in (q_mt8 (List.mem_of_getElem? (i := 40) rfl)) rfl, q_TB_in (q_mt8 (List.mem_of_getElem? (i := 42) rfl)) rfl, q_TB_in (q_pv6 (i := 6) rfl) rfl, q_TB_in (q_mt1 (List.mem_of_getElem? (i := 11) rfl)) rfl, q_TB_in (q_mt8 (List.mem_of_getElem? (i := 43) rfl)) rfl, ⟨by decide, by decide, by decide +kernel⟩, by decide⟩
theorem keRX11_101 : q_cpok q_mt "BlockedCarsModel" (343, 1, 119, 1) := ⟨(yX11_earliest, cX11_earliest, 5, (some .int)), rfl, q_TB_in (q_mt8 (List.mem_of_getElem? (i := 56) rfl)) rfl, q_TB_in (q_mt8 (List.mem_of_getElem? (i := 58) rfl)) rfl, q_TB_in (q_pv6 (i := 9) rfl) rfl, q_TB_in (q_mt1 (List.mem_of_getElem? (i := 11) rfl)) rfl, q_TB_in (q_mt8 (List.mem_of_getElem? (i := 59) rfl)) rfl, ⟨by decide, by decide, by decide +kernel⟩, by decide⟩
theorem keRX11_102 : q_cpok q_mt "BlockedCarsModel" (346, 1, 120, 1) := ⟨(yX11_leaveAll, cX11_leaveAll, 3, none), rfl, q_TB_in (q_mt8 (List.mem_of_getElem? (i := 52) rfl)) rfl, q_TB_in (q_mt8 (List.mem_of_getElem? (i := 54) rfl)) rfl, q_TB_in (q_pv6 (i := 8) rfl) rfl, q_TB_in (q_mt1 (List.mem_of_getElem? (i := 11) rfl)) rfl, q_TB_in (q_mt8 (List.mem_of_getElem? (i := 55) rfl)) rfl, ⟨by decide, by decide, by decide +kernel⟩, by decide⟩
theorem keRX11_103 : q_cpok q_mt "BlockedCarsModel" (350, 1, 116, 1) := ⟨(yX11_asNumber, cX11_asNumber, 6, (some .int)), rfl, q_TB_in (q_mt8 (List.mem_of_getElem? (i := 60) rfl)) rfl, q_TB_in (q_mt8 (List.mem_of_getElem? (i := 62) rfl)) rfl, q_TB_in (q_pv6 (i := 10) rfl) rfl, q_TB_in (q_mt1 (List.mem_of_getElem? (i := 11) rfl)) rfl, q_TB_in (q_mt8 (List.mem_of_getElem? (i := 63) rfl)) rfl, ⟨by decide, by decide, by decide +kernel⟩, by decide⟩
theorem keRX11_104 : q_cpok q_mt "BlockedCarsModel" (353, 1, 118, 1) := ⟨(yX11_placeOf, cX11_placeOf, 9, (some .int)), rfl, q_TB_in (q_mt8 (List.mem_of_getElem? (i := 64) rfl)) rfl, q_TB_in (q_mt8 (List.mem_of_getElem? (i := 66) rfl)) rfl, q_TB_in (q_pv6 (i := 11) rfl) rfl, q_TB_in (q_mt1 (List.mem_of_getElem? (i := 11) rfl)) rfl, q_TB_in (q_mt8 (List.mem_of_getElem? (i := 67) rfl)) rfl, ⟨by decide, by decide, by decide +kernel⟩, by decide⟩
theorem keRX11_105 : q_cpok q_mt "BlockedCarsModel" (356, 0, 10, 46) := fun C T N h => by
    have h : some (RX11, TX11, 53) = some (C, T, N) := h
    cases h
    exact q_TB_in (q_mt6 (List.mem_of_getElem? (i := 144) rfl)) rfl
theorem keRX11_106 : q_cpok q_mt "BlockedCarsModel" (359, 1, 117, 2) := ⟨(yX11_asRow, cX11_asRow, 7, none), rfl, q_TB_in (q_mt8 (List.mem_of_getElem? (i := 68) rfl)) rfl, q_TB_in (q_mt8 (List.mem_of_getElem? (i := 70) rfl)) rfl, q_TB_in (q_pv6 (i := 12) rfl) rfl, q_TB_in (q_mt1 (List.mem_of_getElem? (i := 11) rfl)) rfl, q_TB_in (q_mt8 (List.mem_of_getElem? (i := 71) rfl)) rfl, ⟨by decide, by decide, by decide +kernel⟩, by decide⟩
theorem keRX11_107 : q_cpok q_mt "BlockedCarsModel" (363, 1, 121, 2) := ⟨(yX11_isGoal, cX11_isGoal, 3, (some .boolean)), rfl, q_TB_in (q_mt8 (List.mem_of_getElem? (i := 72) rfl)) rfl, q_TB_in (q_mt8 (List.mem_of_getElem? (i := 74) rfl)) rfl, q_TB_in (q_pv6 (i := 13) rfl) rfl, q_TB_in (q_mt1 (List.mem_of_getElem? (i := 11) rfl)) rfl, q_TB_in (q_mt8 (List.mem_of_getElem? (i := 75) rfl)) rfl, ⟨by decide, by decide, by decide +kernel⟩, by decide⟩
theorem keRX11_108 : q_cpok q_mt "BlockedCarsModel" (367, 0, 10, 47) := fun C T N h => by
    have h : some (RX11, TX11, 53) = some (C, T, N) := h
    cases h
    exact q_TB_in (q_mt6 (List.mem_of_getElem? (i := 145) rfl)) rfl
theorem keRX11_109 : q_cpok q_mt "BlockedCarsModel" (370, 1, 122, 2) := ⟨(yX11_fewest, cX11_fewest, 15, (some .int)), rfl, q_TB_in (q_mt8 (List.mem_of_getElem? (i := 48) rfl)) rfl, q_TB_in (q_mt8 (List.mem_of_getElem? (i := 50) rfl)) rfl, q_TB_in (q_pv6 (i := 7) rfl) rfl, q_TB_in (q_mt1 (List.mem_of_getElem? (i := 11) rfl)) rfl, q_TB_in (q_mt8 (List.mem_of_getElem? (i := 51) rfl)) rfl, ⟨by decide, by decide, by decide +kernel⟩, by decide⟩
theorem keRX11_110 : q_cpok q_mt "BlockedCarsModel" (373, 1, 125, 2) := ⟨(yX11_takesOut, cX11_takesOut, 5, none), rfl, q_TB_in (q_mt8 (List.mem_of_getElem? (i := 84) rfl)) rfl, q_TB_in (q_mt8 (List.mem_of_getElem? (i := 86) rfl)) rfl, q_TB_in (q_pv6 (i := 14) rfl) rfl, q_TB_in (q_mt1 (List.mem_of_getElem? (i := 11) rfl)) rfl, q_TB_in (q_mt8 (List.mem_of_getElem? (i := 87) rfl)) rfl, ⟨by decide, by decide, by decide +kernel⟩, by decide⟩
theorem keRX11_111 : q_cpok q_mt "BlockedCarsModel" (377, 0, 10, 48) := fun C T N h => by
    have h : some (RX11, TX11, 53) = some (C, T, N) := h
    cases h
    exact q_TB_in (q_mt6 (List.mem_of_getElem? (i := 146) rfl)) rfl
theorem keRX11_112 : q_cpok q_mt "BlockedCarsModel" (380, 0, 10, 49) := fun C T N h => by
    have h : some (RX11, TX11, 53) = some (C, T, N) := h
    cases h
    exact q_TB_in (q_mt6 (List.mem_of_getElem? (i := 147) rfl)) rfl
theorem keRX11_113 : q_cpok q_mt "BlockedCarsModel" (383, 1, 129, 4) := ⟨(yX11_comeHome, cX11_comeHome, 6, none), rfl, q_TB_in (q_mt8 (List.mem_of_getElem? (i := 104) rfl)) rfl, q_TB_in (q_mt8 (List.mem_of_getElem? (i := 106) rfl)) rfl, q_TB_in (q_pv7 (i := 0) rfl) rfl, q_TB_in (q_mt1 (List.mem_of_getElem? (i := 11) rfl)) rfl, q_TB_in (q_mt8 (List.mem_of_getElem? (i := 107) rfl)) rfl, ⟨by decide, by decide, by decide +kernel⟩, by decide⟩
theorem keRX11_114 : q_cpok q_mt "BlockedCarsModel" (387, 1, 106, 1) := ⟨(yX11_areCars, cX11_areCars, 2, (some .boolean)), rfl, q_TB_in (q_mt8 (List.mem_of_getElem? (i := 100) rfl)) rfl, q_TB_in (q_mt8 (List.mem_of_getElem? (i := 102) rfl)) rfl, q_TB_in (q_pv6 (i := 15) rfl) rfl, q_TB_in (q_mt1 (List.mem_of_getElem? (i := 11) rfl)) rfl, q_TB_in (q_mt8 (List.mem_of_getElem? (i := 103) rfl)) rfl, ⟨by decide, by decide, by decide +kernel⟩, by decide⟩
theorem keRX11_115 : q_cpok q_mt "BlockedCarsModel" (390, 1, 132, 3) := ⟨(yX11_isOil, cX11_isOil, 5, (some .boolean)), rfl, q_TB_in (q_mt8 (List.mem_of_getElem? (i := 120) rfl)) rfl, q_TB_in (q_mt8 (List.mem_of_getElem? (i := 122) rfl)) rfl, q_TB_in (q_pv7 (i := 2) rfl) rfl, q_TB_in (q_mt1 (List.mem_of_getElem? (i := 11) rfl)) rfl, q_TB_in (q_mt8 (List.mem_of_getElem? (i := 123) rfl)) rfl, ⟨by decide, by decide, by decide +kernel⟩, by decide⟩
theorem keRX11_116 : q_cpok q_mt "BlockedCarsModel" (393, 1, 133, 1) := ⟨(yX11_isLeak, cX11_isLeak, 3, (some .boolean)), rfl, q_TB_in (q_mt8 (List.mem_of_getElem? (i := 116) rfl)) rfl, q_TB_in (q_mt8 (List.mem_of_getElem? (i := 118) rfl)) rfl, q_TB_in (q_pv7 (i := 1) rfl) rfl, q_TB_in (q_mt1 (List.mem_of_getElem? (i := 11) rfl)) rfl, q_TB_in (q_mt8 (List.mem_of_getElem? (i := 119) rfl)) rfl, ⟨by decide, by decide, by decide +kernel⟩, by decide⟩
theorem keRX11_117 : q_cpok q_mt "BlockedCarsModel" (396, 1, 135, 2) := ⟨(yX11_isTold, cX11_isTold, 4, (some .boolean)), rfl, q_TB_in (q_mt8 (List.mem_of_getElem? (i := 128) rfl)) rfl, q_TB_in (q_mt8 (List.mem_of_getElem? (i := 130) rfl)) rfl, q_TB_in (q_pv7 (i := 3) rfl) rfl, q_TB_in (q_mt1 (List.mem_of_getElem? (i := 11) rfl)) rfl, q_TB_in (q_mt8 (List.mem_of_getElem? (i := 131) rfl)) rfl, ⟨by decide, by decide, by decide +kernel⟩, by decide⟩
theorem keRX11_118 : q_cpok q_mt "BlockedCarsModel" (399, 2, 137, 4) := ⟨(yX11_hasBy, cX11_hasBy, 4, (some .int)), rfl, q_TB_in (q_mt8 (List.mem_of_getElem? (i := 139) rfl)) rfl, q_TB_in (q_mt8 (List.mem_of_getElem? (i := 140) rfl)) rfl, q_TB_in (q_mt1 (List.mem_of_getElem? (i := 11) rfl)) rfl, q_TB_in (q_mt8 (List.mem_of_getElem? (i := 141) rfl)) rfl, ⟨by decide, by decide, by decide +kernel⟩, by decide⟩
theorem keRX11_119 : q_cpok q_mt "BlockedCarsModel" (403, 2, 138, 5) := ⟨(yX11_isBest, cX11_isBest, 6, (some .boolean)), rfl, q_TB_in (q_mt8 (List.mem_of_getElem? (i := 136) rfl)) rfl, q_TB_in (q_mt8 (List.mem_of_getElem? (i := 137) rfl)) rfl, q_TB_in (q_mt1 (List.mem_of_getElem? (i := 11) rfl)) rfl, q_TB_in (q_mt8 (List.mem_of_getElem? (i := 138) rfl)) rfl, ⟨by decide, by decide, by decide +kernel⟩, by decide⟩
theorem keRX11_120 : q_cpok q_mt "BlockedCarsModel" (407, 1, 140, 2) := ⟨(yX11_givenBy, cX11_givenBy, 5, (some .int)), rfl, q_TB_in (q_mt8 (List.mem_of_getElem? (i := 146) rfl)) rfl, q_TB_in (q_mt8 (List.mem_of_getElem? (i := 148) rfl)) rfl, q_TB_in (q_pv7 (i := 4) rfl) rfl, q_TB_in (q_mt1 (List.mem_of_getElem? (i := 11) rfl)) rfl, q_TB_in (q_mt8 (List.mem_of_getElem? (i := 149) rfl)) rfl, ⟨by decide, by decide, by decide +kernel⟩, by decide⟩
theorem keRX11_121 : q_cpok q_mt "BlockedCarsModel" (410, 0, 10, 50) := fun C T N h => by
    have h : some (RX11, TX11, 53) = some (C, T, N) := h
    cases h
    exact q_TB_in (q_mt6 (List.mem_of_getElem? (i := 148) rfl)) rfl
theorem keRX11_122 : q_cpok q_mt "BlockedCarsModel" (414, 0, 10, 51) := fun C T N h => by
    have h : some (RX11, TX11, 53) = some (C, T, N) := h
    cases h
    exact q_TB_in (q_mt6 (List.mem_of_getElem? (i := 149) rfl)) rfl
theorem keRX11_123 : q_cpok q_mt "BlockedCarsModel" (417, 0, 10, 52) := fun C T N h => by
    have h : some (RX11, TX11, 53) = some (C, T, N) := h
    cases h
    exact q_TB_in (q_mt6 (List.mem_of_getElem? (i := 150) rfl)) rfl
theorem keRX11_124 : q_cpok q_mt "BlockedCarsModel" (420, 1, 144, 1) := ⟨(yX11_draw, cX11_draw, 2, (some .int)), rfl, q_TB_in (q_mt8 (List.mem_of_getElem? (i := 169) rfl)) rfl, q_TB_in (q_mt8 (List.mem_of_getElem? (i := 171) rfl)) rfl, q_TB_in (q_pv7 (i := 6) rfl) rfl, q_TB_in (q_mt1 (List.mem_of_getElem? (i := 11) rfl)) rfl, q_TB_in (q_mt8 (List.mem_of_getElem? (i := 172) rfl)) rfl, ⟨by decide, by decide, by decide +kernel⟩, by decide⟩
theorem keRX11_125 : q_cpok q_mt "BlockedCarsModel" (423, 2, 146, 2) := ⟨(yX11_areDays, cX11_areDays, 2, (some .boolean)), rfl, q_TB_in (q_mt8 (List.mem_of_getElem? (i := 162) rfl)) rfl, q_TB_in (q_mt8 (List.mem_of_getElem? (i := 163) rfl)) rfl, q_TB_in (q_mt1 (List.mem_of_getElem? (i := 11) rfl)) rfl, q_TB_in (q_mt8 (List.mem_of_getElem? (i := 164) rfl)) rfl, ⟨by decide, by decide, by decide +kernel⟩, by decide⟩
theorem keRX11_126 : q_cpok q_mt "BlockedCarsModel" (426, 1, 145, 3) := ⟨(yX11_daysBy, cX11_daysBy, 7, none), rfl, q_TB_in (q_mt8 (List.mem_of_getElem? (i := 165) rfl)) rfl, q_TB_in (q_mt8 (List.mem_of_getElem? (i := 167) rfl)) rfl, q_TB_in (q_pv7 (i := 5) rfl) rfl, q_TB_in (q_mt1 (List.mem_of_getElem? (i := 11) rfl)) rfl, q_TB_in (q_mt8 (List.mem_of_getElem? (i := 168) rfl)) rfl, ⟨by decide, by decide, by decide +kernel⟩, by decide⟩
theorem keRX11_127 : q_cpok q_mt "BlockedCarsModel" (430, 0, 10, 37) := fun C T N h => by
    have h : some (RX11, TX11, 53) = some (C, T, N) := h
    cases h
    exact q_TB_in (q_mt6 (List.mem_of_getElem? (i := 135) rfl)) rfl
theorem keRX11_128 : q_cpok q_mt "BlockedCarsModel" (433, 1, 149, 3) := ⟨(yX11_puts, cX11_puts, 4, (some .int)), rfl, q_TB_in (q_mt8 (List.mem_of_getElem? (i := 186) rfl)) rfl, q_TB_in (q_mt8 (List.mem_of_getElem? (i := 188) rfl)) rfl, q_TB_in (q_pv7 (i := 8) rfl) rfl, q_TB_in (q_mt1 (List.mem_of_getElem? (i := 11) rfl)) rfl, q_TB_in (q_mt8 (List.mem_of_getElem? (i := 189) rfl)) rfl, ⟨by decide, by decide, by decide +kernel⟩, by decide⟩
theorem keRX11_129 : q_cpok q_mt "BlockedCarsModel" (437, 1, 150, 2) := ⟨(yX11_putsAll, cX11_putsAll, 5, none), rfl, q_TB_in (q_mt8 (List.mem_of_getElem? (i := 182) rfl)) rfl, q_TB_in (q_mt8 (List.mem_of_getElem? (i := 184) rfl)) rfl, q_TB_in (q_pv7 (i := 7) rfl) rfl, q_TB_in (q_mt1 (List.mem_of_getElem? (i := 11) rfl)) rfl, q_TB_in (q_mt8 (List.mem_of_getElem? (i := 185) rfl)) rfl, ⟨by decide, by decide, by decide +kernel⟩, by decide⟩
theorem koRX11 : q_kok q_mt "BlockedCarsModel" kpRX11 := ⟨List.forall_mem_cons.mpr ⟨keRX11_0, List.forall_mem_cons.mpr ⟨keRX11_1, List.forall_mem_cons.mpr ⟨keRX11_2, List.forall_mem_cons.mpr ⟨keRX11_3, List.forall_mem_cons.mpr ⟨keRX11_4, List.forall_mem_cons.mpr ⟨keRX11_5, List.forall_mem_cons.mpr ⟨keRX11_6, List.forall_mem_cons.mpr ⟨keRX11_7, List.forall_mem_cons.mpr ⟨keRX11_8, List.forall_mem_cons.mpr ⟨keRX11_9, List.forall_mem_cons.mpr ⟨keRX11_10, List.forall_mem_cons.mpr ⟨keRX11_11, List.forall_mem_cons.mpr ⟨keRX11_12, List.forall_mem_cons.mpr ⟨keRX11_13, List.forall_mem_cons.mpr ⟨keRX11_14, List.forall_mem_cons.mpr ⟨keRX11_15, List.forall_mem_cons.mpr ⟨keRX11_16, List.forall_mem_cons.mpr ⟨keRX11_17, List.forall_mem_cons.mpr ⟨keRX11_18, List.forall_mem_cons.mpr ⟨keRX11_19, List.forall_mem_cons.mpr ⟨keRX11_20, List.forall_mem_cons.mpr ⟨keRX11_21, List.forall_mem_cons.mpr ⟨keRX11_22, List.forall_mem_cons.mpr ⟨keRX11_23, List.forall_mem_cons.mpr ⟨keRX11_24, List.forall_mem_cons.mpr ⟨keRX11_25, List.forall_mem_cons.mpr ⟨keRX11_26, List.forall_mem_cons.mpr ⟨keRX11_27, List.forall_mem_cons.mpr ⟨keRX11_28, List.forall_mem_cons.mpr ⟨keRX11_29, List.forall_mem_cons.mpr ⟨keRX11_30, List.forall_mem_cons.mpr ⟨keRX11_31, List.forall_mem_cons.mpr ⟨keRX11_32, List.forall_mem_cons.mpr ⟨keRX11_33, List.forall_mem_cons.mpr ⟨keRX11_34, List.forall_mem_cons.mpr ⟨keRX11_35, List.forall_mem_cons.mpr ⟨keRX11_36, List.forall_mem_cons.mpr ⟨keRX11_37, List.forall_mem_cons.mpr ⟨keRX11_38, List.forall_mem_cons.mpr ⟨keRX11_39, List.forall_mem_cons.mpr ⟨keRX11_40, List.forall_mem_cons.mpr ⟨keRX11_41, List.forall_mem_cons.mpr ⟨keRX11_42, List.forall_mem_cons.mpr ⟨keRX11_43, List.forall_mem_cons.mpr ⟨keRX11_44, List.forall_mem_cons.mpr ⟨keRX11_45, List.forall_mem_cons.mpr ⟨keRX11_46, List.forall_mem_cons.mpr ⟨keRX11_47, List.forall_mem_cons.mpr ⟨keRX11_48, List.forall_mem_cons.mpr ⟨keRX11_49, List.forall_mem_cons.mpr ⟨keRX11_50, List.forall_mem_cons.mpr ⟨keRX11_51, List.forall_mem_cons.mpr ⟨keRX11_52, List.forall_mem_cons.mpr ⟨keRX11_53, List.forall_mem_cons.mpr ⟨keRX11_54, List.forall_mem_cons.mpr ⟨keRX11_55, List.forall_mem_cons.mpr ⟨keRX11_56, List.forall_mem_cons.mpr ⟨keRX11_57, List.forall_mem_cons.mpr ⟨keRX11_58, List.forall_mem_cons.mpr ⟨keRX11_59, List.forall_mem_cons.mpr ⟨keRX11_60, List.forall_mem_cons.mpr ⟨keRX11_61, List.forall_mem_cons.mpr ⟨keRX11_62, List.forall_mem_cons.mpr ⟨keRX11_63, List.forall_mem_cons.mpr ⟨keRX11_64, List.forall_mem_cons.mpr ⟨keRX11_65, List.forall_mem_cons.mpr ⟨keRX11_66, List.forall_mem_cons.mpr ⟨keRX11_67, List.forall_mem_cons.mpr ⟨keRX11_68, List.forall_mem_cons.mpr ⟨keRX11_69, List.forall_mem_cons.mpr ⟨keRX11_70, List.forall_mem_cons.mpr ⟨keRX11_71, List.forall_mem_cons.mpr ⟨keRX11_72, List.forall_mem_cons.mpr ⟨keRX11_73, List.forall_mem_cons.mpr ⟨keRX11_74, List.forall_mem_cons.mpr ⟨keRX11_75, List.forall_mem_cons.mpr ⟨keRX11_76, List.forall_mem_cons.mpr ⟨keRX11_77, List.forall_mem_cons.mpr ⟨keRX11_78, List.forall_mem_cons.mpr ⟨keRX11_79, List.forall_mem_cons.mpr ⟨keRX11_80, List.forall_mem_cons.mpr ⟨keRX11_81, List.forall_mem_cons.mpr ⟨keRX11_82, List.forall_mem_cons.mpr ⟨keRX11_83, List.forall_mem_cons.mpr ⟨keRX11_84, List.forall_mem_cons.mpr ⟨keRX11_85, List.forall_mem_cons.mpr ⟨keRX11_86, List.forall_mem_cons.mpr ⟨keRX11_87, List.forall_mem_cons.mpr ⟨keRX11_88, List.forall_mem_cons.mpr ⟨keRX11_89, List.forall_mem_cons.mpr ⟨keRX11_90, List.forall_mem_cons.mpr ⟨keRX11_91, List.forall_mem_cons.mpr ⟨keRX11_92, List.forall_mem_cons.mpr ⟨keRX11_93, List.forall_mem_cons.mpr ⟨keRX11_94, List.forall_mem_cons.mpr ⟨keRX11_95, List.forall_mem_cons.mpr ⟨keRX11_96, List.forall_mem_cons.mpr ⟨keRX11_97, List.forall_mem_cons.mpr ⟨keRX11_98, List.forall_mem_cons.mpr ⟨keRX11_99, List.forall_mem_cons.mpr ⟨keRX11_100, List.forall_mem_cons.mpr ⟨keRX11_101, List.forall_mem_cons.mpr ⟨keRX11_102, List.forall_mem_cons.mpr ⟨keRX11_103, List.forall_mem_cons.mpr ⟨keRX11_104, List.forall_mem_cons.mpr ⟨keRX11_105, List.forall_mem_cons.mpr ⟨keRX11_106, List.forall_mem_cons.mpr ⟨keRX11_107, List.forall_mem_cons.mpr ⟨keRX11_108, List.forall_mem_cons.mpr ⟨keRX11_109, List.forall_mem_cons.mpr ⟨keRX11_110, List.forall_mem_cons.mpr ⟨keRX11_111, List.forall_mem_cons.mpr ⟨keRX11_112, List.forall_mem_cons.mpr ⟨keRX11_113, List.forall_mem_cons.mpr ⟨keRX11_114, List.forall_mem_cons.mpr ⟨keRX11_115, List.forall_mem_cons.mpr ⟨keRX11_116, List.forall_mem_cons.mpr ⟨keRX11_117, List.forall_mem_cons.mpr ⟨keRX11_118, List.forall_mem_cons.mpr ⟨keRX11_119, List.forall_mem_cons.mpr ⟨keRX11_120, List.forall_mem_cons.mpr ⟨keRX11_121, List.forall_mem_cons.mpr ⟨keRX11_122, List.forall_mem_cons.mpr ⟨keRX11_123, List.forall_mem_cons.mpr ⟨keRX11_124, List.forall_mem_cons.mpr ⟨keRX11_125, List.forall_mem_cons.mpr ⟨keRX11_126, List.forall_mem_cons.mpr ⟨keRX11_127, List.forall_mem_cons.mpr ⟨keRX11_128, List.forall_mem_cons.mpr ⟨keRX11_129, (fun _ h => nomatch h)⟩⟩⟩⟩⟩⟩⟩⟩⟩⟩⟩⟩⟩⟩⟩⟩⟩⟩⟩⟩⟩⟩⟩⟩⟩⟩⟩⟩⟩⟩⟩⟩⟩⟩⟩⟩⟩⟩⟩⟩⟩⟩⟩⟩⟩⟩⟩⟩⟩⟩⟩⟩⟩⟩⟩⟩⟩⟩⟩⟩⟩⟩⟩⟩⟩⟩⟩⟩⟩⟩⟩⟩⟩⟩⟩⟩⟩⟩⟩⟩⟩⟩⟩⟩⟩⟩⟩⟩⟩⟩⟩⟩⟩⟩⟩⟩⟩⟩⟩⟩⟩⟩⟩⟩⟩⟩⟩⟩⟩⟩⟩⟩⟩⟩⟩⟩⟩⟩⟩⟩⟩⟩⟩⟩⟩⟩⟩⟩⟩⟩, List.forall_mem_cons.mpr ⟨q_TB_in (q_mt6 (List.mem_of_getElem? (i := 86) rfl)) rfl, List.forall_mem_cons.mpr ⟨q_TB_in (q_mt7 (List.mem_of_getElem? (i := 86) rfl)) rfl, List.forall_mem_cons.mpr ⟨q_TB_in (q_mt8 (List.mem_of_getElem? (i := 173) rfl)) rfl, (fun _ h => nomatch h)⟩⟩⟩, (fun _ h => nomatch h), (fun _ h => nomatch h)⟩
def kpRX0 : qK := ([(9, 0, 0, 0), (15, 0, 0, 1), (19, 0, 0, 2), (22, 0, 0, 3), (25, 1, 157, 2), (29, 2, 230, 2), (35, 0, 8, 0), (40, 1, 159, 2), (44, 1, 268, 1), (48, 1, 158, 1), (52, 0, 8, 1), (56, 2, 224, 2), (59, 2, 226, 2)], [(55, 1103515245)], [], [])
theorem keRX0_0 : q_cpok q_mt "BlockedCars$Days" (9, 0, 0, 0) := fun C T N h => by
    have h : some (RX0, TX0, 4) = some (C, T, N) := h
    cases h
    exact q_TB_in (q_mt2 (List.mem_of_getElem? (i := 56) rfl)) rfl
theorem keRX0_1 : q_cpok q_mt "BlockedCars$Days" (15, 0, 0, 1) := fun C T N h => by
    have h : some (RX0, TX0, 4) = some (C, T, N) := h
    cases h
    exact q_TB_in (q_mt2 (List.mem_of_getElem? (i := 57) rfl)) rfl
theorem keRX0_2 : q_cpok q_mt "BlockedCars$Days" (19, 0, 0, 2) := fun C T N h => by
    have h : some (RX0, TX0, 4) = some (C, T, N) := h
    cases h
    exact q_TB_in (q_mt2 (List.mem_of_getElem? (i := 59) rfl)) rfl
theorem keRX0_3 : q_cpok q_mt "BlockedCars$Days" (22, 0, 0, 3) := fun C T N h => by
    have h : some (RX0, TX0, 4) = some (C, T, N) := h
    cases h
    exact q_TB_in (q_mt2 (List.mem_of_getElem? (i := 61) rfl)) rfl
theorem keRX0_4 : q_cpok q_mt "BlockedCars$Days" (25, 1, 157, 2) := ⟨(yX0_drawIll, cX0_drawIll, 3, (some .int)), rfl, q_TB_in (q_mt6 (List.mem_of_getElem? (i := 53) rfl)) rfl, q_TB_in (q_mt6 (List.mem_of_getElem? (i := 55) rfl)) rfl, q_TB_in (q_pv3 (i := 7) rfl) rfl, q_TB_in (q_mt1 (List.mem_of_getElem? (i := 10) rfl)) rfl, q_TB_in (q_mt6 (List.mem_of_getElem? (i := 56) rfl)) rfl, ⟨by decide, by decide, by decide +kernel⟩, by decide⟩
theorem keRX0_5 : q_cpok q_mt "BlockedCars$Days" (29, 2, 230, 2) := ⟨(yX7_laneOf, cX7_laneOf, 4, (some .int)), rfl, q_TB_in (q_mt6 (List.mem_of_getElem? (i := 62) rfl)) rfl, q_TB_in (q_mt4 (List.mem_of_getElem? (i := 48) rfl)) rfl, q_TB_in (q_mt1 (List.mem_of_getElem? (i := 23) rfl)) rfl, q_TB_in (q_mt4 (List.mem_of_getElem? (i := 49) rfl)) rfl, ⟨by decide, by decide, by decide +kernel⟩, by decide⟩
theorem keRX0_6 : q_cpok q_mt "BlockedCars$Days" (35, 0, 8, 0) := fun C T N h => by
    have h : some (RX9, TX9, 11) = some (C, T, N) := h
    cases h
    exact q_TB_in (q_mt1 (List.mem_of_getElem? (i := 78) rfl)) rfl
theorem keRX0_7 : q_cpok q_mt "BlockedCars$Days" (40, 1, 159, 2) := ⟨(yX0_letLaneOut, cX0_letLaneOut, 5, none), rfl, q_TB_in (q_mt6 (List.mem_of_getElem? (i := 63) rfl)) rfl, q_TB_in (q_mt6 (List.mem_of_getElem? (i := 65) rfl)) rfl, q_TB_in (q_pv3 (i := 9) rfl) rfl, q_TB_in (q_mt1 (List.mem_of_getElem? (i := 10) rfl)) rfl, q_TB_in (q_mt6 (List.mem_of_getElem? (i := 66) rfl)) rfl, ⟨by decide, by decide, by decide +kernel⟩, by decide⟩
theorem keRX0_8 : q_cpok q_mt "BlockedCars$Days" (44, 1, 268, 1) := ⟨(yX9_comeHome, cX9_comeHome, 8, (some .long)), rfl, q_TB_in (q_mt6 (List.mem_of_getElem? (i := 69) rfl)) rfl, q_TB_in (q_mt4 (List.mem_of_getElem? (i := 141) rfl)) rfl, q_TB_in (q_mt4 (List.mem_of_getElem? (i := 142) rfl)) rfl, q_TB_in (q_mt1 (List.mem_of_getElem? (i := 3) rfl)) rfl, q_TB_in (q_mt4 (List.mem_of_getElem? (i := 143) rfl)) rfl, ⟨by decide, by decide, by decide +kernel⟩, by decide⟩
theorem keRX0_9 : q_cpok q_mt "BlockedCars$Days" (48, 1, 158, 1) := ⟨(yX0_draw, cX0_draw, 2, (some .int)), rfl, q_TB_in (q_mt6 (List.mem_of_getElem? (i := 57) rfl)) rfl, q_TB_in (q_mt6 (List.mem_of_getElem? (i := 59) rfl)) rfl, q_TB_in (q_pv3 (i := 8) rfl) rfl, q_TB_in (q_mt1 (List.mem_of_getElem? (i := 10) rfl)) rfl, q_TB_in (q_mt6 (List.mem_of_getElem? (i := 60) rfl)) rfl, ⟨by decide, by decide, by decide +kernel⟩, by decide⟩
theorem keRX0_10 : q_cpok q_mt "BlockedCars$Days" (52, 0, 8, 1) := fun C T N h => by
    have h : some (RX9, TX9, 11) = some (C, T, N) := h
    cases h
    exact q_TB_in (q_mt1 (List.mem_of_getElem? (i := 84) rfl)) rfl
theorem keRX0_11 : q_cpok q_mt "BlockedCars$Days" (56, 2, 224, 2) := ⟨(yX7_frontOf, cX7_frontOf, 3, (some .int)), rfl, q_TB_in (q_mt6 (List.mem_of_getElem? (i := 67) rfl)) rfl, q_TB_in (q_mt4 (List.mem_of_getElem? (i := 84) rfl)) rfl, q_TB_in (q_mt1 (List.mem_of_getElem? (i := 23) rfl)) rfl, q_TB_in (q_mt4 (List.mem_of_getElem? (i := 85) rfl)) rfl, ⟨by decide, by decide, by decide +kernel⟩, by decide⟩
theorem keRX0_12 : q_cpok q_mt "BlockedCars$Days" (59, 2, 226, 2) := ⟨(yX7_driveOut, cX7_driveOut, 3, (some .long)), rfl, q_TB_in (q_mt6 (List.mem_of_getElem? (i := 68) rfl)) rfl, q_TB_in (q_mt4 (List.mem_of_getElem? (i := 135) rfl)) rfl, q_TB_in (q_mt1 (List.mem_of_getElem? (i := 23) rfl)) rfl, q_TB_in (q_mt4 (List.mem_of_getElem? (i := 136) rfl)) rfl, ⟨by decide, by decide, by decide +kernel⟩, by decide⟩
theorem koRX0 : q_kok q_mt "BlockedCars$Days" kpRX0 := ⟨List.forall_mem_cons.mpr ⟨keRX0_0, List.forall_mem_cons.mpr ⟨keRX0_1, List.forall_mem_cons.mpr ⟨keRX0_2, List.forall_mem_cons.mpr ⟨keRX0_3, List.forall_mem_cons.mpr ⟨keRX0_4, List.forall_mem_cons.mpr ⟨keRX0_5, List.forall_mem_cons.mpr ⟨keRX0_6, List.forall_mem_cons.mpr ⟨keRX0_7, List.forall_mem_cons.mpr ⟨keRX0_8, List.forall_mem_cons.mpr ⟨keRX0_9, List.forall_mem_cons.mpr ⟨keRX0_10, List.forall_mem_cons.mpr ⟨keRX0_11, List.forall_mem_cons.mpr ⟨keRX0_12, (fun _ h => nomatch h)⟩⟩⟩⟩⟩⟩⟩⟩⟩⟩⟩⟩⟩, List.forall_mem_cons.mpr ⟨q_TB_in (q_mt6 (List.mem_of_getElem? (i := 61) rfl)) rfl, (fun _ h => nomatch h)⟩, (fun _ h => nomatch h), (fun _ h => nomatch h)⟩
def kpRX1 : qK := ([(9, 0, 1, 0), (15, 0, 1, 1), (18, 0, 1, 2), (21, 1, 162, 0), (24, 0, 1, 3), (28, 1, 163, 1), (32, 1, 165, 2), (36, 1, 194, 0), (42, 0, 4, 3), (45, 1, 191, 2), (49, 1, 166, 2), (52, 1, 197, 1), (56, 1, 167, 2), (59, 1, 190, 0), (62, 1, 196, 1), (65, 1, 168, 2), (68, 1, 195, 0), (71, 1, 199, 2), (75, 1, 200, 0), (78, 2, 170, 1), (84, 1, 201, 1), (88, 1, 169, 3), (94, 0, 4, 4), (97, 1, 198, 1), (117, 0, 3, 0), (123, 2, 230, 2), (129, 2, 222, 2), (132, 2, 228, 1), (136, 2, 274, 1), (142, 1, 257, 1), (147, 1, 259, 1), (150, 1, 258, 1), (153, 1, 171, 4), (157, 3, 1, 0), (162, 1, 184, 1), (165, 1, 172, 4), (168, 1, 174, 0), (172, 2, 175, 3), (176, 3, 0, 0)], [], [], [(82, 13), (92, 14), (101, 7), (103, 8), (105, 9), (107, 4), (109, 3), (111, 10), (113, 11), (115, 12)])
theorem keRX1_0 : q_cpok q_mt "BlockedCars$Law" (9, 0, 1, 0) := fun C T N h => by
    have h : some (RX1, TX1, 4) = some (C, T, N) := h
    cases h
    exact q_TB_in (q_mt1 (List.mem_of_getElem? (i := 136) rfl)) rfl
theorem keRX1_1 : q_cpok q_mt "BlockedCars$Law" (15, 0, 1, 1) := fun C T N h => by
    have h : some (RX1, TX1, 4) = some (C, T, N) := h
    cases h
    exact q_TB_in (q_mt1 (List.mem_of_getElem? (i := 137) rfl)) rfl
theorem keRX1_2 : q_cpok q_mt "BlockedCars$Law" (18, 0, 1, 2) := fun C T N h => by
    have h : some (RX1, TX1, 4) = some (C, T, N) := h
    cases h
    exact q_TB_in (q_mt1 (List.mem_of_getElem? (i := 138) rfl)) rfl
theorem keRX1_3 : q_cpok q_mt "BlockedCars$Law" (21, 1, 162, 0) := ⟨(yX1_writeDefault, cX1_writeDefault, 1, none), rfl, q_TB_in (q_mt1 (List.mem_of_getElem? (i := 128) rfl)) rfl, q_TB_in (q_mt1 (List.mem_of_getElem? (i := 130) rfl)) rfl, q_TB_in (q_pv1 (i := 0) rfl) rfl, q_TB_in (q_mt1 (List.mem_of_getElem? (i := 4) rfl)) rfl, q_TB_in (q_mt1 (List.mem_of_getElem? (i := 131) rfl)) rfl, ⟨by decide, by decide, by decide +kernel⟩, by decide⟩
theorem keRX1_4 : q_cpok q_mt "BlockedCars$Law" (24, 0, 1, 3) := fun C T N h => by
    have h : some (RX1, TX1, 4) = some (C, T, N) := h
    cases h
    exact q_TB_in (q_mt1 (List.mem_of_getElem? (i := 139) rfl)) rfl
theorem keRX1_5 : q_cpok q_mt "BlockedCars$Law" (28, 1, 163, 1) := ⟨(yX1_write, cX1_write, 2, none), rfl, q_TB_in (q_mt1 (List.mem_of_getElem? (i := 132) rfl)) rfl, q_TB_in (q_mt1 (List.mem_of_getElem? (i := 134) rfl)) rfl, q_TB_in (q_pv1 (i := 1) rfl) rfl, q_TB_in (q_mt1 (List.mem_of_getElem? (i := 4) rfl)) rfl, q_TB_in (q_mt1 (List.mem_of_getElem? (i := 135) rfl)) rfl, ⟨by decide, by decide, by decide +kernel⟩, by decide⟩
theorem keRX1_6 : q_cpok q_mt "BlockedCars$Law" (32, 1, 165, 2) := ⟨(yX1_readSum, cX1_readSum, 5, none), rfl, q_TB_in (q_mt3 (List.mem_of_getElem? (i := 168) rfl)) rfl, q_TB_in (q_mt3 (List.mem_of_getElem? (i := 170) rfl)) rfl, q_TB_in (q_pv1 (i := 10) rfl) rfl, q_TB_in (q_mt1 (List.mem_of_getElem? (i := 4) rfl)) rfl, q_TB_in (q_mt3 (List.mem_of_getElem? (i := 171) rfl)) rfl, ⟨by decide, by decide, by decide +kernel⟩, by decide⟩
theorem keRX1_7 : q_cpok q_mt "BlockedCars$Law" (36, 1, 194, 0) := ⟨(yX4_isAtEnd, cX4_isAtEnd, 1, (some .boolean)), rfl, q_TB_in (q_mt3 (List.mem_of_getElem? (i := 217) rfl)) rfl, q_TB_in (q_mt3 (List.mem_of_getElem? (i := 21) rfl)) rfl, q_TB_in (q_mt3 (List.mem_of_getElem? (i := 22) rfl)) rfl, q_TB_in (q_mt1 (List.mem_of_getElem? (i := 2) rfl)) rfl, q_TB_in (q_mt3 (List.mem_of_getElem? (i := 23) rfl)) rfl, ⟨by decide, by decide, by decide +kernel⟩, by decide⟩
theorem keRX1_8 : q_cpok q_mt "BlockedCars$Law" (42, 0, 4, 3) := fun C T N h => by
    have h : some (RX4, TX4, 7) = some (C, T, N) := h
    cases h
    exact q_TB_in (q_mt1 (List.mem_of_getElem? (i := 46) rfl)) rfl
theorem keRX1_9 : q_cpok q_mt "BlockedCars$Law" (45, 1, 191, 2) := ⟨(yX4_fail, cX4_fail, 3, none), rfl, q_TB_in (q_mt3 (List.mem_of_getElem? (i := 189) rfl)) rfl, q_TB_in (q_mt3 (List.mem_of_getElem? (i := 100) rfl)) rfl, q_TB_in (q_mt3 (List.mem_of_getElem? (i := 101) rfl)) rfl, q_TB_in (q_mt1 (List.mem_of_getElem? (i := 2) rfl)) rfl, q_TB_in (q_mt3 (List.mem_of_getElem? (i := 102) rfl)) rfl, ⟨by decide, by decide, by decide +kernel⟩, by decide⟩
theorem keRX1_10 : q_cpok q_mt "BlockedCars$Law" (49, 1, 166, 2) := ⟨(yX1_readProduct, cX1_readProduct, 5, none), rfl, q_TB_in (q_mt3 (List.mem_of_getElem? (i := 172) rfl)) rfl, q_TB_in (q_mt3 (List.mem_of_getElem? (i := 174) rfl)) rfl, q_TB_in (q_pv1 (i := 11) rfl) rfl, q_TB_in (q_mt1 (List.mem_of_getElem? (i := 4) rfl)) rfl, q_TB_in (q_mt3 (List.mem_of_getElem? (i := 175) rfl)) rfl, ⟨by decide, by decide, by decide +kernel⟩, by decide⟩
theorem keRX1_11 : q_cpok q_mt "BlockedCars$Law" (52, 1, 197, 1) := ⟨(yX4_skipIf, cX4_skipIf, 2, (some .boolean)), rfl, q_TB_in (q_mt3 (List.mem_of_getElem? (i := 212) rfl)) rfl, q_TB_in (q_mt3 (List.mem_of_getElem? (i := 213) rfl)) rfl, q_TB_in (q_mt3 (List.mem_of_getElem? (i := 214) rfl)) rfl, q_TB_in (q_mt1 (List.mem_of_getElem? (i := 2) rfl)) rfl, q_TB_in (q_mt3 (List.mem_of_getElem? (i := 215) rfl)) rfl, ⟨by decide, by decide, by decide +kernel⟩, by decide⟩
theorem keRX1_12 : q_cpok q_mt "BlockedCars$Law" (56, 1, 167, 2) := ⟨(yX1_readUnit, cX1_readUnit, 4, none), rfl, q_TB_in (q_mt3 (List.mem_of_getElem? (i := 176) rfl)) rfl, q_TB_in (q_mt3 (List.mem_of_getElem? (i := 178) rfl)) rfl, q_TB_in (q_pv1 (i := 12) rfl) rfl, q_TB_in (q_mt1 (List.mem_of_getElem? (i := 4) rfl)) rfl, q_TB_in (q_mt3 (List.mem_of_getElem? (i := 179) rfl)) rfl, ⟨by decide, by decide, by decide +kernel⟩, by decide⟩
theorem keRX1_13 : q_cpok q_mt "BlockedCars$Law" (59, 1, 190, 0) := ⟨(yX4_isSound, cX4_isSound, 1, (some .boolean)), rfl, q_TB_in (q_mt3 (List.mem_of_getElem? (i := 180) rfl)) rfl, q_TB_in (q_mt3 (List.mem_of_getElem? (i := 17) rfl)) rfl, q_TB_in (q_mt3 (List.mem_of_getElem? (i := 18) rfl)) rfl, q_TB_in (q_mt1 (List.mem_of_getElem? (i := 2) rfl)) rfl, q_TB_in (q_mt3 (List.mem_of_getElem? (i := 19) rfl)) rfl, ⟨by decide, by decide, by decide +kernel⟩, by decide⟩
theorem keRX1_14 : q_cpok q_mt "BlockedCars$Law" (62, 1, 196, 1) := ⟨(yX4_isNext, cX4_isNext, 2, (some .boolean)), rfl, q_TB_in (q_mt3 (List.mem_of_getElem? (i := 181) rfl)) rfl, q_TB_in (q_mt3 (List.mem_of_getElem? (i := 182) rfl)) rfl, q_TB_in (q_mt3 (List.mem_of_getElem? (i := 183) rfl)) rfl, q_TB_in (q_mt1 (List.mem_of_getElem? (i := 2) rfl)) rfl, q_TB_in (q_mt3 (List.mem_of_getElem? (i := 184) rfl)) rfl, ⟨by decide, by decide, by decide +kernel⟩, by decide⟩
theorem keRX1_15 : q_cpok q_mt "BlockedCars$Law" (65, 1, 168, 2) := ⟨(yX1_readBracket, cX1_readBracket, 3, none), rfl, q_TB_in (q_mt3 (List.mem_of_getElem? (i := 185) rfl)) rfl, q_TB_in (q_mt3 (List.mem_of_getElem? (i := 187) rfl)) rfl, q_TB_in (q_pv1 (i := 13) rfl) rfl, q_TB_in (q_mt1 (List.mem_of_getElem? (i := 4) rfl)) rfl, q_TB_in (q_mt3 (List.mem_of_getElem? (i := 188) rfl)) rfl, ⟨by decide, by decide, by decide +kernel⟩, by decide⟩
theorem keRX1_16 : q_cpok q_mt "BlockedCars$Law" (68, 1, 195, 0) := ⟨(yX4_isDigitHere, cX4_isDigitHere, 2, (some .boolean)), rfl, q_TB_in (q_mt3 (List.mem_of_getElem? (i := 191) rfl)) rfl, q_TB_in (q_mt3 (List.mem_of_getElem? (i := 112) rfl)) rfl, q_TB_in (q_mt3 (List.mem_of_getElem? (i := 113) rfl)) rfl, q_TB_in (q_mt1 (List.mem_of_getElem? (i := 2) rfl)) rfl, q_TB_in (q_mt3 (List.mem_of_getElem? (i := 114) rfl)) rfl, ⟨by decide, by decide, by decide +kernel⟩, by decide⟩
theorem keRX1_17 : q_cpok q_mt "BlockedCars$Law" (71, 1, 199, 2) := ⟨(yX4_readNumber, cX4_readNumber, 5, (some .int)), rfl, q_TB_in (q_mt3 (List.mem_of_getElem? (i := 192) rfl)) rfl, q_TB_in (q_mt3 (List.mem_of_getElem? (i := 108) rfl)) rfl, q_TB_in (q_mt3 (List.mem_of_getElem? (i := 109) rfl)) rfl, q_TB_in (q_mt1 (List.mem_of_getElem? (i := 2) rfl)) rfl, q_TB_in (q_mt3 (List.mem_of_getElem? (i := 110) rfl)) rfl, ⟨by decide, by decide, by decide +kernel⟩, by decide⟩
theorem keRX1_18 : q_cpok q_mt "BlockedCars$Law" (75, 1, 200, 0) := ⟨(yX4_readWord, cX4_readWord, 1, none), rfl, q_TB_in (q_mt3 (List.mem_of_getElem? (i := 193) rfl)) rfl, q_TB_in (q_mt3 (List.mem_of_getElem? (i := 33) rfl)) rfl, q_TB_in (q_mt3 (List.mem_of_getElem? (i := 34) rfl)) rfl, q_TB_in (q_mt1 (List.mem_of_getElem? (i := 2) rfl)) rfl, q_TB_in (q_mt3 (List.mem_of_getElem? (i := 35) rfl)) rfl, ⟨by decide, by decide, by decide +kernel⟩, by decide⟩
theorem keRX1_19 : q_cpok q_mt "BlockedCars$Law" (78, 2, 170, 1) := ⟨(yX1_factOf, cX1_factOf, 1, (some .int)), rfl, q_TB_in (q_mt3 (List.mem_of_getElem? (i := 194) rfl)) rfl, q_TB_in (q_mt3 (List.mem_of_getElem? (i := 195) rfl)) rfl, q_TB_in (q_mt1 (List.mem_of_getElem? (i := 4) rfl)) rfl, q_TB_in (q_mt3 (List.mem_of_getElem? (i := 196) rfl)) rfl, ⟨by decide, by decide, by decide +kernel⟩, by decide⟩
theorem keRX1_20 : q_cpok q_mt "BlockedCars$Law" (84, 1, 201, 1) := ⟨(yX4_isWord, cX4_isWord, 3, (some .boolean)), rfl, q_TB_in (q_mt3 (List.mem_of_getElem? (i := 198) rfl)) rfl, q_TB_in (q_mt3 (List.mem_of_getElem? (i := 45) rfl)) rfl, q_TB_in (q_mt3 (List.mem_of_getElem? (i := 46) rfl)) rfl, q_TB_in (q_mt1 (List.mem_of_getElem? (i := 2) rfl)) rfl, q_TB_in (q_mt3 (List.mem_of_getElem? (i := 47) rfl)) rfl, ⟨by decide, by decide, by decide +kernel⟩, by decide⟩
theorem keRX1_21 : q_cpok q_mt "BlockedCars$Law" (88, 1, 169, 3) := ⟨(yX1_readTwo, cX1_readTwo, 4, none), rfl, q_TB_in (q_mt3 (List.mem_of_getElem? (i := 207) rfl)) rfl, q_TB_in (q_mt3 (List.mem_of_getElem? (i := 209) rfl)) rfl, q_TB_in (q_pv1 (i := 14) rfl) rfl, q_TB_in (q_mt1 (List.mem_of_getElem? (i := 4) rfl)) rfl, q_TB_in (q_mt3 (List.mem_of_getElem? (i := 210) rfl)) rfl, ⟨by decide, by decide, by decide +kernel⟩, by decide⟩
theorem keRX1_22 : q_cpok q_mt "BlockedCars$Law" (94, 0, 4, 4) := fun C T N h => by
    have h : some (RX4, TX4, 7) = some (C, T, N) := h
    cases h
    exact q_TB_in (q_mt1 (List.mem_of_getElem? (i := 49) rfl)) rfl
theorem keRX1_23 : q_cpok q_mt "BlockedCars$Law" (97, 1, 198, 1) := ⟨(yX4_readSign, cX4_readSign, 2, none), rfl, q_TB_in (q_mt3 (List.mem_of_getElem? (i := 190) rfl)) rfl, q_TB_in (q_mt3 (List.mem_of_getElem? (i := 129) rfl)) rfl, q_TB_in (q_mt3 (List.mem_of_getElem? (i := 130) rfl)) rfl, q_TB_in (q_mt1 (List.mem_of_getElem? (i := 2) rfl)) rfl, q_TB_in (q_mt3 (List.mem_of_getElem? (i := 131) rfl)) rfl, ⟨by decide, by decide, by decide +kernel⟩, by decide⟩
theorem keRX1_24 : q_cpok q_mt "BlockedCars$Law" (117, 0, 3, 0) := fun C T N h => by
    have h : some (RX3, TX3, 3) = some (C, T, N) := h
    cases h
    exact q_TB_in (q_mt1 (List.mem_of_getElem? (i := 221) rfl)) rfl
theorem keRX1_25 : q_cpok q_mt "BlockedCars$Law" (123, 2, 230, 2) := ⟨(yX7_laneOf, cX7_laneOf, 4, (some .int)), rfl, q_TB_in (q_mt4 (List.mem_of_getElem? (i := 94) rfl)) rfl, q_TB_in (q_mt4 (List.mem_of_getElem? (i := 48) rfl)) rfl, q_TB_in (q_mt1 (List.mem_of_getElem? (i := 23) rfl)) rfl, q_TB_in (q_mt4 (List.mem_of_getElem? (i := 49) rfl)) rfl, ⟨by decide, by decide, by decide +kernel⟩, by decide⟩
theorem keRX1_26 : q_cpok q_mt "BlockedCars$Law" (129, 2, 222, 2) := ⟨(yX7_rowOf, cX7_rowOf, 3, (some .int)), rfl, q_TB_in (q_mt4 (List.mem_of_getElem? (i := 95) rfl)) rfl, q_TB_in (q_mt4 (List.mem_of_getElem? (i := 62) rfl)) rfl, q_TB_in (q_mt1 (List.mem_of_getElem? (i := 23) rfl)) rfl, q_TB_in (q_mt4 (List.mem_of_getElem? (i := 63) rfl)) rfl, ⟨by decide, by decide, by decide +kernel⟩, by decide⟩
theorem keRX1_27 : q_cpok q_mt "BlockedCars$Law" (132, 2, 228, 1) := ⟨(yX7_carsIn, cX7_carsIn, 5, (some .int)), rfl, q_TB_in (q_mt4 (List.mem_of_getElem? (i := 96) rfl)) rfl, q_TB_in (q_mt4 (List.mem_of_getElem? (i := 97) rfl)) rfl, q_TB_in (q_mt1 (List.mem_of_getElem? (i := 23) rfl)) rfl, q_TB_in (q_mt4 (List.mem_of_getElem? (i := 98) rfl)) rfl, ⟨by decide, by decide, by decide +kernel⟩, by decide⟩
theorem keRX1_28 : q_cpok q_mt "BlockedCars$Law" (136, 2, 274, 1) := ⟨(yJ6_bitCount_0f7a4, cJ6_bitCount_0f7a4, 1, (some .int)), rfl, q_TB_in (q_mt4 (List.mem_of_getElem? (i := 99) rfl)) rfl, q_TB_in (q_mt3 (List.mem_of_getElem? (i := 141) rfl)) rfl, q_TB_in (q_mt1 (List.mem_of_getElem? (i := 21) rfl)) rfl, q_TB_in (q_mt3 (List.mem_of_getElem? (i := 142) rfl)) rfl, ⟨by decide, by decide, by decide +kernel⟩, by decide⟩
theorem keRX1_29 : q_cpok q_mt "BlockedCars$Law" (142, 1, 257, 1) := ⟨(yX9_lengthOf, cX9_lengthOf, 2, (some .int)), rfl, q_TB_in (q_mt4 (List.mem_of_getElem? (i := 100) rfl)) rfl, q_TB_in (q_mt4 (List.mem_of_getElem? (i := 66) rfl)) rfl, q_TB_in (q_mt4 (List.mem_of_getElem? (i := 67) rfl)) rfl, q_TB_in (q_mt1 (List.mem_of_getElem? (i := 3) rfl)) rfl, q_TB_in (q_mt4 (List.mem_of_getElem? (i := 68) rfl)) rfl, ⟨by decide, by decide, by decide +kernel⟩, by decide⟩
theorem keRX1_30 : q_cpok q_mt "BlockedCars$Law" (147, 1, 259, 1) := ⟨(yX9_triesOf, cX9_triesOf, 2, (some .int)), rfl, q_TB_in (q_mt4 (List.mem_of_getElem? (i := 101) rfl)) rfl, q_TB_in (q_mt4 (List.mem_of_getElem? (i := 102) rfl)) rfl, q_TB_in (q_mt4 (List.mem_of_getElem? (i := 103) rfl)) rfl, q_TB_in (q_mt1 (List.mem_of_getElem? (i := 3) rfl)) rfl, q_TB_in (q_mt4 (List.mem_of_getElem? (i := 104) rfl)) rfl, ⟨by decide, by decide, by decide +kernel⟩, by decide⟩
theorem keRX1_31 : q_cpok q_mt "BlockedCars$Law" (150, 1, 258, 1) := ⟨(yX9_hourOf, cX9_hourOf, 2, (some .int)), rfl, q_TB_in (q_mt4 (List.mem_of_getElem? (i := 105) rfl)) rfl, q_TB_in (q_mt4 (List.mem_of_getElem? (i := 106) rfl)) rfl, q_TB_in (q_mt4 (List.mem_of_getElem? (i := 107) rfl)) rfl, q_TB_in (q_mt1 (List.mem_of_getElem? (i := 3) rfl)) rfl, q_TB_in (q_mt4 (List.mem_of_getElem? (i := 108) rfl)) rfl, ⟨by decide, by decide, by decide +kernel⟩, by decide⟩
theorem keRX1_32 : q_cpok q_mt "BlockedCars$Law" (153, 1, 171, 4) := ⟨(yX1_tellCar, cX1_tellCar, 5, none), rfl, q_TB_in (q_mt4 (List.mem_of_getElem? (i := 109) rfl)) rfl, q_TB_in (q_mt4 (List.mem_of_getElem? (i := 110) rfl)) rfl, q_TB_in (q_mt4 (List.mem_of_getElem? (i := 111) rfl)) rfl, q_TB_in (q_mt1 (List.mem_of_getElem? (i := 4) rfl)) rfl, q_TB_in (q_mt4 (List.mem_of_getElem? (i := 112) rfl)) rfl, ⟨by decide, by decide, by decide +kernel⟩, by decide⟩
theorem keRX1_33 : q_cpok q_mt "BlockedCars$Law" (157, 3, 1, 0) := q_TB_in (q_mt4 (List.mem_of_getElem? (i := 113) rfl)) rfl
theorem keRX1_34 : q_cpok q_mt "BlockedCars$Law" (162, 1, 184, 1) := ⟨(yX3_movesOf, cX3_movesOf, 2, (some .int)), rfl, q_TB_in (q_mt4 (List.mem_of_getElem? (i := 114) rfl)) rfl, q_TB_in (q_mt4 (List.mem_of_getElem? (i := 115) rfl)) rfl, q_TB_in (q_mt4 (List.mem_of_getElem? (i := 116) rfl)) rfl, q_TB_in (q_mt1 (List.mem_of_getElem? (i := 8) rfl)) rfl, q_TB_in (q_mt4 (List.mem_of_getElem? (i := 117) rfl)) rfl, ⟨by decide, by decide, by decide +kernel⟩, by decide⟩
theorem keRX1_35 : q_cpok q_mt "BlockedCars$Law" (165, 1, 172, 4) := ⟨(yX1_tellMove, cX1_tellMove, 5, none), rfl, q_TB_in (q_mt4 (List.mem_of_getElem? (i := 118) rfl)) rfl, q_TB_in (q_mt4 (List.mem_of_getElem? (i := 119) rfl)) rfl, q_TB_in (q_mt4 (List.mem_of_getElem? (i := 120) rfl)) rfl, q_TB_in (q_mt1 (List.mem_of_getElem? (i := 4) rfl)) rfl, q_TB_in (q_mt4 (List.mem_of_getElem? (i := 121) rfl)) rfl, ⟨by decide, by decide, by decide +kernel⟩, by decide⟩
theorem keRX1_36 : q_cpok q_mt "BlockedCars$Law" (168, 1, 174, 0) := ⟨(yX1_secondsTold, cX1_secondsTold, 4, (some .int)), rfl, q_TB_in (q_mt4 (List.mem_of_getElem? (i := 122) rfl)) rfl, q_TB_in (q_mt4 (List.mem_of_getElem? (i := 123) rfl)) rfl, q_TB_in (q_mt4 (List.mem_of_getElem? (i := 124) rfl)) rfl, q_TB_in (q_mt1 (List.mem_of_getElem? (i := 4) rfl)) rfl, q_TB_in (q_mt4 (List.mem_of_getElem? (i := 125) rfl)) rfl, ⟨by decide, by decide, by decide +kernel⟩, by decide⟩
theorem keRX1_37 : q_cpok q_mt "BlockedCars$Law" (172, 2, 175, 3) := ⟨(yX1_reckon, cX1_reckon, 3, (some .int)), rfl, q_TB_in (q_mt4 (List.mem_of_getElem? (i := 126) rfl)) rfl, q_TB_in (q_mt4 (List.mem_of_getElem? (i := 127) rfl)) rfl, q_TB_in (q_mt1 (List.mem_of_getElem? (i := 4) rfl)) rfl, q_TB_in (q_mt4 (List.mem_of_getElem? (i := 128) rfl)) rfl, ⟨by decide, by decide, by decide +kernel⟩, by decide⟩
theorem keRX1_38 : q_cpok q_mt "BlockedCars$Law" (176, 3, 0, 0) := q_TB_in (q_mt4 (List.mem_of_getElem? (i := 129) rfl)) rfl
theorem koRX1 : q_kok q_mt "BlockedCars$Law" kpRX1 := ⟨List.forall_mem_cons.mpr ⟨keRX1_0, List.forall_mem_cons.mpr ⟨keRX1_1, List.forall_mem_cons.mpr ⟨keRX1_2, List.forall_mem_cons.mpr ⟨keRX1_3, List.forall_mem_cons.mpr ⟨keRX1_4, List.forall_mem_cons.mpr ⟨keRX1_5, List.forall_mem_cons.mpr ⟨keRX1_6, List.forall_mem_cons.mpr ⟨keRX1_7, List.forall_mem_cons.mpr ⟨keRX1_8, List.forall_mem_cons.mpr ⟨keRX1_9, List.forall_mem_cons.mpr ⟨keRX1_10, List.forall_mem_cons.mpr ⟨keRX1_11, List.forall_mem_cons.mpr ⟨keRX1_12, List.forall_mem_cons.mpr ⟨keRX1_13, List.forall_mem_cons.mpr ⟨keRX1_14, List.forall_mem_cons.mpr ⟨keRX1_15, List.forall_mem_cons.mpr ⟨keRX1_16, List.forall_mem_cons.mpr ⟨keRX1_17, List.forall_mem_cons.mpr ⟨keRX1_18, List.forall_mem_cons.mpr ⟨keRX1_19, List.forall_mem_cons.mpr ⟨keRX1_20, List.forall_mem_cons.mpr ⟨keRX1_21, List.forall_mem_cons.mpr ⟨keRX1_22, List.forall_mem_cons.mpr ⟨keRX1_23, List.forall_mem_cons.mpr ⟨keRX1_24, List.forall_mem_cons.mpr ⟨keRX1_25, List.forall_mem_cons.mpr ⟨keRX1_26, List.forall_mem_cons.mpr ⟨keRX1_27, List.forall_mem_cons.mpr ⟨keRX1_28, List.forall_mem_cons.mpr ⟨keRX1_29, List.forall_mem_cons.mpr ⟨keRX1_30, List.forall_mem_cons.mpr ⟨keRX1_31, List.forall_mem_cons.mpr ⟨keRX1_32, List.forall_mem_cons.mpr ⟨keRX1_33, List.forall_mem_cons.mpr ⟨keRX1_34, List.forall_mem_cons.mpr ⟨keRX1_35, List.forall_mem_cons.mpr ⟨keRX1_36, List.forall_mem_cons.mpr ⟨keRX1_37, List.forall_mem_cons.mpr ⟨keRX1_38, (fun _ h => nomatch h)⟩⟩⟩⟩⟩⟩⟩⟩⟩⟩⟩⟩⟩⟩⟩⟩⟩⟩⟩⟩⟩⟩⟩⟩⟩⟩⟩⟩⟩⟩⟩⟩⟩⟩⟩⟩⟩⟩⟩, (fun _ h => nomatch h), (fun _ h => nomatch h), List.forall_mem_cons.mpr ⟨List.mem_of_getElem? (i := 15) rfl, List.forall_mem_cons.mpr ⟨List.mem_of_getElem? (i := 16) rfl, List.forall_mem_cons.mpr ⟨List.mem_of_getElem? (i := 7) rfl, List.forall_mem_cons.mpr ⟨List.mem_of_getElem? (i := 8) rfl, List.forall_mem_cons.mpr ⟨List.mem_of_getElem? (i := 9) rfl, List.forall_mem_cons.mpr ⟨List.mem_of_getElem? (i := 10) rfl, List.forall_mem_cons.mpr ⟨List.mem_of_getElem? (i := 11) rfl, List.forall_mem_cons.mpr ⟨List.mem_of_getElem? (i := 12) rfl, List.forall_mem_cons.mpr ⟨List.mem_of_getElem? (i := 13) rfl, List.forall_mem_cons.mpr ⟨List.mem_of_getElem? (i := 14) rfl, (fun _ h => nomatch h)⟩⟩⟩⟩⟩⟩⟩⟩⟩⟩⟩
def kpRX2 : qK := ([(11, 0, 2, 0), (18, 0, 2, 1), (22, 3, 0, 0), (28, 3, 1, 0), (31, 1, 181, 1)], [], [], [])
theorem keRX2_0 : q_cpok q_mt "BlockedCars$Past" (11, 0, 2, 0) := fun C T N h => by
    have h : some (RX2, TX2, 2) = some (C, T, N) := h
    cases h
    exact q_TB_in (q_mt1 (List.mem_of_getElem? (i := 233) rfl)) rfl
theorem keRX2_1 : q_cpok q_mt "BlockedCars$Past" (18, 0, 2, 1) := fun C T N h => by
    have h : some (RX2, TX2, 2) = some (C, T, N) := h
    cases h
    exact q_TB_in (q_mt1 (List.mem_of_getElem? (i := 234) rfl)) rfl
theorem keRX2_2 : q_cpok q_mt "BlockedCars$Past" (22, 3, 0, 0) := q_TB_in (q_mt4 (List.mem_of_getElem? (i := 29) rfl)) rfl
theorem keRX2_3 : q_cpok q_mt "BlockedCars$Past" (28, 3, 1, 0) := q_TB_in (q_mt4 (List.mem_of_getElem? (i := 30) rfl)) rfl
theorem keRX2_4 : q_cpok q_mt "BlockedCars$Past" (31, 1, 181, 1) := ⟨(yX3_become, cX3_become, 2, none), rfl, q_TB_in (q_mt2 (List.mem_of_getElem? (i := 145) rfl)) rfl, q_TB_in (q_mt2 (List.mem_of_getElem? (i := 146) rfl)) rfl, q_TB_in (q_mt2 (List.mem_of_getElem? (i := 147) rfl)) rfl, q_TB_in (q_mt1 (List.mem_of_getElem? (i := 8) rfl)) rfl, q_TB_in (q_mt2 (List.mem_of_getElem? (i := 148) rfl)) rfl, ⟨by decide, by decide, by decide +kernel⟩, by decide⟩
theorem koRX2 : q_kok q_mt "BlockedCars$Past" kpRX2 := ⟨List.forall_mem_cons.mpr ⟨keRX2_0, List.forall_mem_cons.mpr ⟨keRX2_1, List.forall_mem_cons.mpr ⟨keRX2_2, List.forall_mem_cons.mpr ⟨keRX2_3, List.forall_mem_cons.mpr ⟨keRX2_4, (fun _ h => nomatch h)⟩⟩⟩⟩⟩, (fun _ h => nomatch h), (fun _ h => nomatch h), (fun _ h => nomatch h)⟩
def kpRX3 : qK := ([(9, 0, 3, 2), (15, 0, 3, 0), (19, 0, 3, 1), (23, 5, 0, 0), (29, 3, 0, 0)], [], [], [])
theorem keRX3_0 : q_cpok q_mt "BlockedCars$Position" (9, 0, 3, 2) := fun C T N h => by
    have h : some (RX3, TX3, 3) = some (C, T, N) := h
    cases h
    exact q_TB_in (q_mt1 (List.mem_of_getElem? (i := 225) rfl)) rfl
theorem keRX3_1 : q_cpok q_mt "BlockedCars$Position" (15, 0, 3, 0) := fun C T N h => by
    have h : some (RX3, TX3, 3) = some (C, T, N) := h
    cases h
    exact q_TB_in (q_mt1 (List.mem_of_getElem? (i := 218) rfl)) rfl
theorem keRX3_2 : q_cpok q_mt "BlockedCars$Position" (19, 0, 3, 1) := fun C T N h => by
    have h : some (RX3, TX3, 3) = some (C, T, N) := h
    cases h
    exact q_TB_in (q_mt1 (List.mem_of_getElem? (i := 222) rfl)) rfl
theorem keRX3_3 : q_cpok q_mt "BlockedCars$Position" (23, 5, 0, 0) := q_TB_in (q_mt2 (List.mem_of_getElem? (i := 149) rfl)) rfl
theorem keRX3_4 : q_cpok q_mt "BlockedCars$Position" (29, 3, 0, 0) := q_TB_in (q_mt6 (List.mem_of_getElem? (i := 19) rfl)) rfl
theorem koRX3 : q_kok q_mt "BlockedCars$Position" kpRX3 := ⟨List.forall_mem_cons.mpr ⟨keRX3_0, List.forall_mem_cons.mpr ⟨keRX3_1, List.forall_mem_cons.mpr ⟨keRX3_2, List.forall_mem_cons.mpr ⟨keRX3_3, List.forall_mem_cons.mpr ⟨keRX3_4, (fun _ h => nomatch h)⟩⟩⟩⟩⟩, (fun _ h => nomatch h), (fun _ h => nomatch h), (fun _ h => nomatch h)⟩
def kpRX4 : qK := ([(9, 0, 4, 0), (15, 0, 4, 6), (19, 0, 4, 1), (22, 3, 0, 0), (28, 0, 4, 2), (31, 0, 4, 3), (34, 0, 4, 5), (37, 1, 193, 0), (40, 1, 192, 0), (44, 1, 196, 1), (48, 1, 191, 2), (52, 1, 195, 0), (57, 3, 1, 0), (60, 0, 4, 4), (63, 1, 281, 0), (68, 1, 277, 1)], [(56, 1000000)], [], [])
theorem keRX4_0 : q_cpok q_mt "BlockedCars$Reader" (9, 0, 4, 0) := fun C T N h => by
    have h : some (RX4, TX4, 7) = some (C, T, N) := h
    cases h
    exact q_TB_in (q_mt1 (List.mem_of_getElem? (i := 40) rfl)) rfl
theorem keRX4_1 : q_cpok q_mt "BlockedCars$Reader" (15, 0, 4, 6) := fun C T N h => by
    have h : some (RX4, TX4, 7) = some (C, T, N) := h
    cases h
    exact q_TB_in (q_mt1 (List.mem_of_getElem? (i := 53) rfl)) rfl
theorem keRX4_2 : q_cpok q_mt "BlockedCars$Reader" (19, 0, 4, 1) := fun C T N h => by
    have h : some (RX4, TX4, 7) = some (C, T, N) := h
    cases h
    exact q_TB_in (q_mt1 (List.mem_of_getElem? (i := 42) rfl)) rfl
theorem keRX4_3 : q_cpok q_mt "BlockedCars$Reader" (22, 3, 0, 0) := q_TB_in (q_mt3 (List.mem_of_getElem? (i := 9) rfl)) rfl
theorem keRX4_4 : q_cpok q_mt "BlockedCars$Reader" (28, 0, 4, 2) := fun C T N h => by
    have h : some (RX4, TX4, 7) = some (C, T, N) := h
    cases h
    exact q_TB_in (q_mt1 (List.mem_of_getElem? (i := 43) rfl)) rfl
theorem keRX4_5 : q_cpok q_mt "BlockedCars$Reader" (31, 0, 4, 3) := fun C T N h => by
    have h : some (RX4, TX4, 7) = some (C, T, N) := h
    cases h
    exact q_TB_in (q_mt1 (List.mem_of_getElem? (i := 44) rfl)) rfl
theorem keRX4_6 : q_cpok q_mt "BlockedCars$Reader" (34, 0, 4, 5) := fun C T N h => by
    have h : some (RX4, TX4, 7) = some (C, T, N) := h
    cases h
    exact q_TB_in (q_mt1 (List.mem_of_getElem? (i := 51) rfl)) rfl
theorem keRX4_7 : q_cpok q_mt "BlockedCars$Reader" (37, 1, 193, 0) := ⟨(yX4_skipBlanks, cX4_skipBlanks, 1, none), rfl, q_TB_in (q_mt3 (List.mem_of_getElem? (i := 24) rfl)) rfl, q_TB_in (q_mt3 (List.mem_of_getElem? (i := 25) rfl)) rfl, q_TB_in (q_mt3 (List.mem_of_getElem? (i := 26) rfl)) rfl, q_TB_in (q_mt1 (List.mem_of_getElem? (i := 2) rfl)) rfl, q_TB_in (q_mt3 (List.mem_of_getElem? (i := 27) rfl)) rfl, ⟨by decide, by decide, by decide +kernel⟩, by decide⟩
theorem keRX4_8 : q_cpok q_mt "BlockedCars$Reader" (40, 1, 192, 0) := ⟨(yX4_here, cX4_here, 1, (some .int)), rfl, q_TB_in (q_mt3 (List.mem_of_getElem? (i := 36) rfl)) rfl, q_TB_in (q_mt3 (List.mem_of_getElem? (i := 37) rfl)) rfl, q_TB_in (q_mt3 (List.mem_of_getElem? (i := 38) rfl)) rfl, q_TB_in (q_mt1 (List.mem_of_getElem? (i := 2) rfl)) rfl, q_TB_in (q_mt3 (List.mem_of_getElem? (i := 39) rfl)) rfl, ⟨by decide, by decide, by decide +kernel⟩, by decide⟩
theorem keRX4_9 : q_cpok q_mt "BlockedCars$Reader" (44, 1, 196, 1) := ⟨(yX4_isNext, cX4_isNext, 2, (some .boolean)), rfl, q_TB_in (q_mt3 (List.mem_of_getElem? (i := 216) rfl)) rfl, q_TB_in (q_mt3 (List.mem_of_getElem? (i := 182) rfl)) rfl, q_TB_in (q_mt3 (List.mem_of_getElem? (i := 183) rfl)) rfl, q_TB_in (q_mt1 (List.mem_of_getElem? (i := 2) rfl)) rfl, q_TB_in (q_mt3 (List.mem_of_getElem? (i := 184) rfl)) rfl, ⟨by decide, by decide, by decide +kernel⟩, by decide⟩
theorem keRX4_10 : q_cpok q_mt "BlockedCars$Reader" (48, 1, 191, 2) := ⟨(yX4_fail, cX4_fail, 3, none), rfl, q_TB_in (q_mt3 (List.mem_of_getElem? (i := 116) rfl)) rfl, q_TB_in (q_mt3 (List.mem_of_getElem? (i := 100) rfl)) rfl, q_TB_in (q_mt3 (List.mem_of_getElem? (i := 101) rfl)) rfl, q_TB_in (q_mt1 (List.mem_of_getElem? (i := 2) rfl)) rfl, q_TB_in (q_mt3 (List.mem_of_getElem? (i := 102) rfl)) rfl, ⟨by decide, by decide, by decide +kernel⟩, by decide⟩
theorem keRX4_11 : q_cpok q_mt "BlockedCars$Reader" (52, 1, 195, 0) := ⟨(yX4_isDigitHere, cX4_isDigitHere, 2, (some .boolean)), rfl, q_TB_in (q_mt3 (List.mem_of_getElem? (i := 111) rfl)) rfl, q_TB_in (q_mt3 (List.mem_of_getElem? (i := 112) rfl)) rfl, q_TB_in (q_mt3 (List.mem_of_getElem? (i := 113) rfl)) rfl, q_TB_in (q_mt1 (List.mem_of_getElem? (i := 2) rfl)) rfl, q_TB_in (q_mt3 (List.mem_of_getElem? (i := 114) rfl)) rfl, ⟨by decide, by decide, by decide +kernel⟩, by decide⟩
theorem keRX4_12 : q_cpok q_mt "BlockedCars$Reader" (57, 3, 1, 0) := q_TB_in (q_mt3 (List.mem_of_getElem? (i := 117) rfl)) rfl
theorem keRX4_13 : q_cpok q_mt "BlockedCars$Reader" (60, 0, 4, 4) := fun C T N h => by
    have h : some (RX4, TX4, 7) = some (C, T, N) := h
    cases h
    exact q_TB_in (q_mt1 (List.mem_of_getElem? (i := 50) rfl)) rfl
theorem keRX4_14 : q_cpok q_mt "BlockedCars$Reader" (63, 1, 281, 0) := ⟨(yJ0_length_8abf5, cJ0_length_8abf5, 1, (some .int)), rfl, q_TB_in (q_mt3 (List.mem_of_getElem? (i := 48) rfl)) rfl, q_TB_in (q_mt3 (List.mem_of_getElem? (i := 49) rfl)) rfl, q_TB_in (q_mt3 (List.mem_of_getElem? (i := 50) rfl)) rfl, q_TB_in (q_mt1 (List.mem_of_getElem? (i := 17) rfl)) rfl, q_TB_in (q_mt3 (List.mem_of_getElem? (i := 51) rfl)) rfl, ⟨by decide, by decide, by decide +kernel⟩, by decide⟩
theorem keRX4_15 : q_cpok q_mt "BlockedCars$Reader" (68, 1, 277, 1) := ⟨(yJ0_charAt_5068e, cJ0_charAt_5068e, 2, (some .char)), rfl, q_TB_in (q_mt3 (List.mem_of_getElem? (i := 58) rfl)) rfl, q_TB_in (q_mt3 (List.mem_of_getElem? (i := 59) rfl)) rfl, q_TB_in (q_mt3 (List.mem_of_getElem? (i := 60) rfl)) rfl, q_TB_in (q_mt1 (List.mem_of_getElem? (i := 17) rfl)) rfl, q_TB_in (q_mt3 (List.mem_of_getElem? (i := 61) rfl)) rfl, ⟨by decide, by decide, by decide +kernel⟩, by decide⟩
theorem koRX4 : q_kok q_mt "BlockedCars$Reader" kpRX4 := ⟨List.forall_mem_cons.mpr ⟨keRX4_0, List.forall_mem_cons.mpr ⟨keRX4_1, List.forall_mem_cons.mpr ⟨keRX4_2, List.forall_mem_cons.mpr ⟨keRX4_3, List.forall_mem_cons.mpr ⟨keRX4_4, List.forall_mem_cons.mpr ⟨keRX4_5, List.forall_mem_cons.mpr ⟨keRX4_6, List.forall_mem_cons.mpr ⟨keRX4_7, List.forall_mem_cons.mpr ⟨keRX4_8, List.forall_mem_cons.mpr ⟨keRX4_9, List.forall_mem_cons.mpr ⟨keRX4_10, List.forall_mem_cons.mpr ⟨keRX4_11, List.forall_mem_cons.mpr ⟨keRX4_12, List.forall_mem_cons.mpr ⟨keRX4_13, List.forall_mem_cons.mpr ⟨keRX4_14, List.forall_mem_cons.mpr ⟨keRX4_15, (fun _ h => nomatch h)⟩⟩⟩⟩⟩⟩⟩⟩⟩⟩⟩⟩⟩⟩⟩⟩, List.forall_mem_cons.mpr ⟨q_TB_in (q_mt3 (List.mem_of_getElem? (i := 115) rfl)) rfl, (fun _ h => nomatch h)⟩, (fun _ h => nomatch h), (fun _ h => nomatch h)⟩
def kpRX5 : qK := ([(11, 0, 5, 0), (15, 0, 5, 1), (20, 0, 5, 2), (27, 0, 5, 5), (31, 0, 5, 6), (35, 0, 5, 7), (38, 0, 5, 10), (41, 0, 5, 11), (44, 1, 267, 1), (48, 1, 208, 1), (52, 1, 209, 1), (56, 0, 5, 9), (60, 0, 5, 8), (63, 1, 204, 1), (67, 0, 5, 3), (70, 0, 5, 4), (80, 1, 210, 2), (84, 1, 205, 2), (88, 1, 266, 1), (91, 0, 8, 0), (94, 2, 224, 2), (100, 1, 206, 2), (103, 1, 257, 1), (107, 2, 226, 2), (111, 2, 227, 3), (115, 1, 207, 3), (119, 1, 261, 2), (120, 2, 231, 2), (123, 1, 265, 2), (126, 2, 274, 1)], [(19, 32768), (73, 65536)], [(131, (-7046029254386353131))], [])
theorem keRX5_0 : q_cpok q_mt "BlockedCars$Search" (11, 0, 5, 0) := fun C T N h => by
    have h : some (RX5, TX5, 12) = some (C, T, N) := h
    cases h
    exact q_TB_in (q_mt2 (List.mem_of_getElem? (i := 11) rfl)) rfl
theorem keRX5_1 : q_cpok q_mt "BlockedCars$Search" (15, 0, 5, 1) := fun C T N h => by
    have h : some (RX5, TX5, 12) = some (C, T, N) := h
    cases h
    exact q_TB_in (q_mt2 (List.mem_of_getElem? (i := 12) rfl)) rfl
theorem keRX5_2 : q_cpok q_mt "BlockedCars$Search" (20, 0, 5, 2) := fun C T N h => by
    have h : some (RX5, TX5, 12) = some (C, T, N) := h
    cases h
    exact q_TB_in (q_mt2 (List.mem_of_getElem? (i := 13) rfl)) rfl
theorem keRX5_3 : q_cpok q_mt "BlockedCars$Search" (27, 0, 5, 5) := fun C T N h => by
    have h : some (RX5, TX5, 12) = some (C, T, N) := h
    cases h
    exact q_TB_in (q_mt2 (List.mem_of_getElem? (i := 16) rfl)) rfl
theorem keRX5_4 : q_cpok q_mt "BlockedCars$Search" (31, 0, 5, 6) := fun C T N h => by
    have h : some (RX5, TX5, 12) = some (C, T, N) := h
    cases h
    exact q_TB_in (q_mt2 (List.mem_of_getElem? (i := 17) rfl)) rfl
theorem keRX5_5 : q_cpok q_mt "BlockedCars$Search" (35, 0, 5, 7) := fun C T N h => by
    have h : some (RX5, TX5, 12) = some (C, T, N) := h
    cases h
    exact q_TB_in (q_mt2 (List.mem_of_getElem? (i := 18) rfl)) rfl
theorem keRX5_6 : q_cpok q_mt "BlockedCars$Search" (38, 0, 5, 10) := fun C T N h => by
    have h : some (RX5, TX5, 12) = some (C, T, N) := h
    cases h
    exact q_TB_in (q_mt2 (List.mem_of_getElem? (i := 21) rfl)) rfl
theorem keRX5_7 : q_cpok q_mt "BlockedCars$Search" (41, 0, 5, 11) := fun C T N h => by
    have h : some (RX5, TX5, 12) = some (C, T, N) := h
    cases h
    exact q_TB_in (q_mt2 (List.mem_of_getElem? (i := 22) rfl)) rfl
theorem keRX5_8 : q_cpok q_mt "BlockedCars$Search" (44, 1, 267, 1) := ⟨(yX9_letOut, cX9_letOut, 7, (some .long)), rfl, q_TB_in (q_mt5 (List.mem_of_getElem? (i := 76) rfl)) rfl, q_TB_in (q_mt5 (List.mem_of_getElem? (i := 77) rfl)) rfl, q_TB_in (q_mt5 (List.mem_of_getElem? (i := 78) rfl)) rfl, q_TB_in (q_mt1 (List.mem_of_getElem? (i := 3) rfl)) rfl, q_TB_in (q_mt5 (List.mem_of_getElem? (i := 79) rfl)) rfl, ⟨by decide, by decide, by decide +kernel⟩, by decide⟩
theorem keRX5_9 : q_cpok q_mt "BlockedCars$Search" (48, 1, 208, 1) := ⟨(yX5_isReached, cX5_isReached, 3, (some .boolean)), rfl, q_TB_in (q_mt5 (List.mem_of_getElem? (i := 82) rfl)) rfl, q_TB_in (q_mt5 (List.mem_of_getElem? (i := 84) rfl)) rfl, q_TB_in (q_pv2 (i := 12) rfl) rfl, q_TB_in (q_mt1 (List.mem_of_getElem? (i := 9) rfl)) rfl, q_TB_in (q_mt5 (List.mem_of_getElem? (i := 85) rfl)) rfl, ⟨by decide, by decide, by decide +kernel⟩, by decide⟩
theorem keRX5_10 : q_cpok q_mt "BlockedCars$Search" (52, 1, 209, 1) := ⟨(yX5_leastFrom, cX5_leastFrom, 3, (some .int)), rfl, q_TB_in (q_mt5 (List.mem_of_getElem? (i := 87) rfl)) rfl, q_TB_in (q_mt5 (List.mem_of_getElem? (i := 89) rfl)) rfl, q_TB_in (q_pv2 (i := 13) rfl) rfl, q_TB_in (q_mt1 (List.mem_of_getElem? (i := 9) rfl)) rfl, q_TB_in (q_mt5 (List.mem_of_getElem? (i := 90) rfl)) rfl, ⟨by decide, by decide, by decide +kernel⟩, by decide⟩
theorem keRX5_11 : q_cpok q_mt "BlockedCars$Search" (56, 0, 5, 9) := fun C T N h => by
    have h : some (RX5, TX5, 12) = some (C, T, N) := h
    cases h
    exact q_TB_in (q_mt2 (List.mem_of_getElem? (i := 20) rfl)) rfl
theorem keRX5_12 : q_cpok q_mt "BlockedCars$Search" (60, 0, 5, 8) := fun C T N h => by
    have h : some (RX5, TX5, 12) = some (C, T, N) := h
    cases h
    exact q_TB_in (q_mt2 (List.mem_of_getElem? (i := 19) rfl)) rfl
theorem keRX5_13 : q_cpok q_mt "BlockedCars$Search" (63, 1, 204, 1) := ⟨(yX5_spread, cX5_spread, 6, none), rfl, q_TB_in (q_mt5 (List.mem_of_getElem? (i := 93) rfl)) rfl, q_TB_in (q_mt5 (List.mem_of_getElem? (i := 95) rfl)) rfl, q_TB_in (q_pv2 (i := 14) rfl) rfl, q_TB_in (q_mt1 (List.mem_of_getElem? (i := 9) rfl)) rfl, q_TB_in (q_mt5 (List.mem_of_getElem? (i := 96) rfl)) rfl, ⟨by decide, by decide, by decide +kernel⟩, by decide⟩
theorem keRX5_14 : q_cpok q_mt "BlockedCars$Search" (67, 0, 5, 3) := fun C T N h => by
    have h : some (RX5, TX5, 12) = some (C, T, N) := h
    cases h
    exact q_TB_in (q_mt2 (List.mem_of_getElem? (i := 14) rfl)) rfl
theorem keRX5_15 : q_cpok q_mt "BlockedCars$Search" (70, 0, 5, 4) := fun C T N h => by
    have h : some (RX5, TX5, 12) = some (C, T, N) := h
    cases h
    exact q_TB_in (q_mt2 (List.mem_of_getElem? (i := 15) rfl)) rfl
theorem keRX5_16 : q_cpok q_mt "BlockedCars$Search" (80, 1, 210, 2) := ⟨(yX5_keep, cX5_keep, 8, none), rfl, q_TB_in (q_mt5 (List.mem_of_getElem? (i := 101) rfl)) rfl, q_TB_in (q_mt5 (List.mem_of_getElem? (i := 103) rfl)) rfl, q_TB_in (q_pv2 (i := 15) rfl) rfl, q_TB_in (q_mt1 (List.mem_of_getElem? (i := 9) rfl)) rfl, q_TB_in (q_mt5 (List.mem_of_getElem? (i := 104) rfl)) rfl, ⟨by decide, by decide, by decide +kernel⟩, by decide⟩
theorem keRX5_17 : q_cpok q_mt "BlockedCars$Search" (84, 1, 205, 2) := ⟨(yX5_moveFrom, cX5_moveFrom, 11, none), rfl, q_TB_in (q_mt5 (List.mem_of_getElem? (i := 106) rfl)) rfl, q_TB_in (q_mt5 (List.mem_of_getElem? (i := 108) rfl)) rfl, q_TB_in (q_pv3 (i := 0) rfl) rfl, q_TB_in (q_mt1 (List.mem_of_getElem? (i := 9) rfl)) rfl, q_TB_in (q_mt5 (List.mem_of_getElem? (i := 109) rfl)) rfl, ⟨by decide, by decide, by decide +kernel⟩, by decide⟩
theorem keRX5_18 : q_cpok q_mt "BlockedCars$Search" (88, 1, 266, 1) := ⟨(yX9_nextOut, cX9_nextOut, 5, (some .int)), rfl, q_TB_in (q_mt5 (List.mem_of_getElem? (i := 110) rfl)) rfl, q_TB_in (q_mt5 (List.mem_of_getElem? (i := 111) rfl)) rfl, q_TB_in (q_mt5 (List.mem_of_getElem? (i := 112) rfl)) rfl, q_TB_in (q_mt1 (List.mem_of_getElem? (i := 3) rfl)) rfl, q_TB_in (q_mt5 (List.mem_of_getElem? (i := 113) rfl)) rfl, ⟨by decide, by decide, by decide +kernel⟩, by decide⟩
theorem keRX5_19 : q_cpok q_mt "BlockedCars$Search" (91, 0, 8, 0) := fun C T N h => by
    have h : some (RX9, TX9, 11) = some (C, T, N) := h
    cases h
    exact q_TB_in (q_mt1 (List.mem_of_getElem? (i := 80) rfl)) rfl
theorem keRX5_20 : q_cpok q_mt "BlockedCars$Search" (94, 2, 224, 2) := ⟨(yX7_frontOf, cX7_frontOf, 3, (some .int)), rfl, q_TB_in (q_mt5 (List.mem_of_getElem? (i := 115) rfl)) rfl, q_TB_in (q_mt4 (List.mem_of_getElem? (i := 84) rfl)) rfl, q_TB_in (q_mt1 (List.mem_of_getElem? (i := 23) rfl)) rfl, q_TB_in (q_mt4 (List.mem_of_getElem? (i := 85) rfl)) rfl, ⟨by decide, by decide, by decide +kernel⟩, by decide⟩
theorem keRX5_21 : q_cpok q_mt "BlockedCars$Search" (100, 1, 206, 2) := ⟨(yX5_roomOf, cX5_roomOf, 4, (some .int)), rfl, q_TB_in (q_mt5 (List.mem_of_getElem? (i := 116) rfl)) rfl, q_TB_in (q_mt5 (List.mem_of_getElem? (i := 118) rfl)) rfl, q_TB_in (q_pv3 (i := 1) rfl) rfl, q_TB_in (q_mt1 (List.mem_of_getElem? (i := 9) rfl)) rfl, q_TB_in (q_mt5 (List.mem_of_getElem? (i := 119) rfl)) rfl, ⟨by decide, by decide, by decide +kernel⟩, by decide⟩
theorem keRX5_22 : q_cpok q_mt "BlockedCars$Search" (103, 1, 257, 1) := ⟨(yX9_lengthOf, cX9_lengthOf, 2, (some .int)), rfl, q_TB_in (q_mt5 (List.mem_of_getElem? (i := 121) rfl)) rfl, q_TB_in (q_mt4 (List.mem_of_getElem? (i := 66) rfl)) rfl, q_TB_in (q_mt4 (List.mem_of_getElem? (i := 67) rfl)) rfl, q_TB_in (q_mt1 (List.mem_of_getElem? (i := 3) rfl)) rfl, q_TB_in (q_mt4 (List.mem_of_getElem? (i := 68) rfl)) rfl, ⟨by decide, by decide, by decide +kernel⟩, by decide⟩
theorem keRX5_23 : q_cpok q_mt "BlockedCars$Search" (107, 2, 226, 2) := ⟨(yX7_driveOut, cX7_driveOut, 3, (some .long)), rfl, q_TB_in (q_mt5 (List.mem_of_getElem? (i := 122) rfl)) rfl, q_TB_in (q_mt4 (List.mem_of_getElem? (i := 135) rfl)) rfl, q_TB_in (q_mt1 (List.mem_of_getElem? (i := 23) rfl)) rfl, q_TB_in (q_mt4 (List.mem_of_getElem? (i := 136) rfl)) rfl, ⟨by decide, by decide, by decide +kernel⟩, by decide⟩
theorem keRX5_24 : q_cpok q_mt "BlockedCars$Search" (111, 2, 227, 3) := ⟨(yX7_driveIn, cX7_driveIn, 4, (some .long)), rfl, q_TB_in (q_mt5 (List.mem_of_getElem? (i := 123) rfl)) rfl, q_TB_in (q_mt4 (List.mem_of_getElem? (i := 71) rfl)) rfl, q_TB_in (q_mt1 (List.mem_of_getElem? (i := 23) rfl)) rfl, q_TB_in (q_mt4 (List.mem_of_getElem? (i := 72) rfl)) rfl, ⟨by decide, by decide, by decide +kernel⟩, by decide⟩
theorem keRX5_25 : q_cpok q_mt "BlockedCars$Search" (115, 1, 207, 3) := ⟨(yX5_arrive, cX5_arrive, 5, none), rfl, q_TB_in (q_mt5 (List.mem_of_getElem? (i := 124) rfl)) rfl, q_TB_in (q_mt5 (List.mem_of_getElem? (i := 126) rfl)) rfl, q_TB_in (q_pv3 (i := 2) rfl) rfl, q_TB_in (q_mt1 (List.mem_of_getElem? (i := 9) rfl)) rfl, q_TB_in (q_mt5 (List.mem_of_getElem? (i := 127) rfl)) rfl, ⟨by decide, by decide, by decide +kernel⟩, by decide⟩
theorem keRX5_26 : q_cpok q_mt "BlockedCars$Search" (119, 1, 261, 2) := ⟨(yX9_roomOf, cX9_roomOf, 6, (some .int)), rfl, q_TB_in (q_mt5 (List.mem_of_getElem? (i := 120) rfl)) rfl, q_TB_in (q_mt4 (List.mem_of_getElem? (i := 54) rfl)) rfl, q_TB_in (q_mt4 (List.mem_of_getElem? (i := 55) rfl)) rfl, q_TB_in (q_mt1 (List.mem_of_getElem? (i := 3) rfl)) rfl, q_TB_in (q_mt4 (List.mem_of_getElem? (i := 56) rfl)) rfl, ⟨by decide, by decide, by decide +kernel⟩, by decide⟩
theorem keRX5_27 : q_cpok q_mt "BlockedCars$Search" (120, 2, 231, 2) := ⟨(yX7_aheadOf, cX7_aheadOf, 5, (some .int)), rfl, q_TB_in (q_mt5 (List.mem_of_getElem? (i := 86) rfl)) rfl, q_TB_in (q_mt5 (List.mem_of_getElem? (i := 62) rfl)) rfl, q_TB_in (q_mt1 (List.mem_of_getElem? (i := 23) rfl)) rfl, q_TB_in (q_mt5 (List.mem_of_getElem? (i := 63) rfl)) rfl, ⟨by decide, by decide, by decide +kernel⟩, by decide⟩
theorem keRX5_28 : q_cpok q_mt "BlockedCars$Search" (123, 1, 265, 2) := ⟨(yX9_blockings, cX9_blockings, 8, (some .int)), rfl, q_TB_in (q_mt5 (List.mem_of_getElem? (i := 91) rfl)) rfl, q_TB_in (q_mt4 (List.mem_of_getElem? (i := 200) rfl)) rfl, q_TB_in (q_mt4 (List.mem_of_getElem? (i := 201) rfl)) rfl, q_TB_in (q_mt1 (List.mem_of_getElem? (i := 3) rfl)) rfl, q_TB_in (q_mt4 (List.mem_of_getElem? (i := 202) rfl)) rfl, ⟨by decide, by decide, by decide +kernel⟩, by decide⟩
theorem keRX5_29 : q_cpok q_mt "BlockedCars$Search" (126, 2, 274, 1) := ⟨(yJ6_bitCount_0f7a4, cJ6_bitCount_0f7a4, 1, (some .int)), rfl, q_TB_in (q_mt5 (List.mem_of_getElem? (i := 92) rfl)) rfl, q_TB_in (q_mt3 (List.mem_of_getElem? (i := 141) rfl)) rfl, q_TB_in (q_mt1 (List.mem_of_getElem? (i := 21) rfl)) rfl, q_TB_in (q_mt3 (List.mem_of_getElem? (i := 142) rfl)) rfl, ⟨by decide, by decide, by decide +kernel⟩, by decide⟩
theorem koRX5 : q_kok q_mt "BlockedCars$Search" kpRX5 := ⟨List.forall_mem_cons.mpr ⟨keRX5_0, List.forall_mem_cons.mpr ⟨keRX5_1, List.forall_mem_cons.mpr ⟨keRX5_2, List.forall_mem_cons.mpr ⟨keRX5_3, List.forall_mem_cons.mpr ⟨keRX5_4, List.forall_mem_cons.mpr ⟨keRX5_5, List.forall_mem_cons.mpr ⟨keRX5_6, List.forall_mem_cons.mpr ⟨keRX5_7, List.forall_mem_cons.mpr ⟨keRX5_8, List.forall_mem_cons.mpr ⟨keRX5_9, List.forall_mem_cons.mpr ⟨keRX5_10, List.forall_mem_cons.mpr ⟨keRX5_11, List.forall_mem_cons.mpr ⟨keRX5_12, List.forall_mem_cons.mpr ⟨keRX5_13, List.forall_mem_cons.mpr ⟨keRX5_14, List.forall_mem_cons.mpr ⟨keRX5_15, List.forall_mem_cons.mpr ⟨keRX5_16, List.forall_mem_cons.mpr ⟨keRX5_17, List.forall_mem_cons.mpr ⟨keRX5_18, List.forall_mem_cons.mpr ⟨keRX5_19, List.forall_mem_cons.mpr ⟨keRX5_20, List.forall_mem_cons.mpr ⟨keRX5_21, List.forall_mem_cons.mpr ⟨keRX5_22, List.forall_mem_cons.mpr ⟨keRX5_23, List.forall_mem_cons.mpr ⟨keRX5_24, List.forall_mem_cons.mpr ⟨keRX5_25, List.forall_mem_cons.mpr ⟨keRX5_26, List.forall_mem_cons.mpr ⟨keRX5_27, List.forall_mem_cons.mpr ⟨keRX5_28, List.forall_mem_cons.mpr ⟨keRX5_29, (fun _ h => nomatch h)⟩⟩⟩⟩⟩⟩⟩⟩⟩⟩⟩⟩⟩⟩⟩⟩⟩⟩⟩⟩⟩⟩⟩⟩⟩⟩⟩⟩⟩⟩, List.forall_mem_cons.mpr ⟨q_TB_in (q_mt2 (List.mem_of_getElem? (i := 8) rfl)) rfl, List.forall_mem_cons.mpr ⟨q_TB_in (q_mt5 (List.mem_of_getElem? (i := 97) rfl)) rfl, (fun _ h => nomatch h)⟩⟩, List.forall_mem_cons.mpr ⟨q_TB_in (q_mt5 (List.mem_of_getElem? (i := 105) rfl)) rfl, (fun _ h => nomatch h)⟩, (fun _ h => nomatch h)⟩
def kpRX6 : qK := ([(11, 0, 6, 3), (15, 0, 6, 0), (19, 0, 6, 1), (22, 1, 212, 0), (25, 1, 190, 0), (31, 1, 194, 0), (34, 1, 214, 2), (38, 0, 8, 0), (43, 1, 199, 2), (47, 1, 193, 0), (50, 0, 4, 3), (53, 1, 256, 1), (57, 1, 191, 2), (61, 1, 198, 1), (65, 0, 8, 1), (68, 0, 6, 4), (69, 0, 6, 2), (72, 1, 262, 3), (76, 1, 216, 1), (80, 4, 39, 3), (84, 3, 1, 0), (89, 1, 220, 1)], [], [], [])
theorem keRX6_0 : q_cpok q_mt "BlockedCars$Spots" (11, 0, 6, 3) := fun C T N h => by
    have h : some (RX6, TX6, 5) = some (C, T, N) := h
    cases h
    exact q_TB_in (q_mt1 (List.mem_of_getElem? (i := 159) rfl)) rfl
theorem keRX6_1 : q_cpok q_mt "BlockedCars$Spots" (15, 0, 6, 0) := fun C T N h => by
    have h : some (RX6, TX6, 5) = some (C, T, N) := h
    cases h
    exact q_TB_in (q_mt1 (List.mem_of_getElem? (i := 155) rfl)) rfl
theorem keRX6_2 : q_cpok q_mt "BlockedCars$Spots" (19, 0, 6, 1) := fun C T N h => by
    have h : some (RX6, TX6, 5) = some (C, T, N) := h
    cases h
    exact q_TB_in (q_mt1 (List.mem_of_getElem? (i := 157) rfl)) rfl
theorem keRX6_3 : q_cpok q_mt "BlockedCars$Spots" (22, 1, 212, 0) := ⟨(yX6_clear, cX6_clear, 1, none), rfl, q_TB_in (q_mt4 (List.mem_of_getElem? (i := 170) rfl)) rfl, q_TB_in (q_mt3 (List.mem_of_getElem? (i := 153) rfl)) rfl, q_TB_in (q_mt3 (List.mem_of_getElem? (i := 154) rfl)) rfl, q_TB_in (q_mt1 (List.mem_of_getElem? (i := 5) rfl)) rfl, q_TB_in (q_mt3 (List.mem_of_getElem? (i := 155) rfl)) rfl, ⟨by decide, by decide, by decide +kernel⟩, by decide⟩
theorem keRX6_4 : q_cpok q_mt "BlockedCars$Spots" (25, 1, 190, 0) := ⟨(yX4_isSound, cX4_isSound, 1, (some .boolean)), rfl, q_TB_in (q_mt4 (List.mem_of_getElem? (i := 171) rfl)) rfl, q_TB_in (q_mt3 (List.mem_of_getElem? (i := 17) rfl)) rfl, q_TB_in (q_mt3 (List.mem_of_getElem? (i := 18) rfl)) rfl, q_TB_in (q_mt1 (List.mem_of_getElem? (i := 2) rfl)) rfl, q_TB_in (q_mt3 (List.mem_of_getElem? (i := 19) rfl)) rfl, ⟨by decide, by decide, by decide +kernel⟩, by decide⟩
theorem keRX6_5 : q_cpok q_mt "BlockedCars$Spots" (31, 1, 194, 0) := ⟨(yX4_isAtEnd, cX4_isAtEnd, 1, (some .boolean)), rfl, q_TB_in (q_mt4 (List.mem_of_getElem? (i := 172) rfl)) rfl, q_TB_in (q_mt3 (List.mem_of_getElem? (i := 21) rfl)) rfl, q_TB_in (q_mt3 (List.mem_of_getElem? (i := 22) rfl)) rfl, q_TB_in (q_mt1 (List.mem_of_getElem? (i := 2) rfl)) rfl, q_TB_in (q_mt3 (List.mem_of_getElem? (i := 23) rfl)) rfl, ⟨by decide, by decide, by decide +kernel⟩, by decide⟩
theorem keRX6_6 : q_cpok q_mt "BlockedCars$Spots" (34, 1, 214, 2) := ⟨(yX6_readLine, cX6_readLine, 7, none), rfl, q_TB_in (q_mt4 (List.mem_of_getElem? (i := 173) rfl)) rfl, q_TB_in (q_mt4 (List.mem_of_getElem? (i := 175) rfl)) rfl, q_TB_in (q_pv2 (i := 8) rfl) rfl, q_TB_in (q_mt1 (List.mem_of_getElem? (i := 5) rfl)) rfl, q_TB_in (q_mt4 (List.mem_of_getElem? (i := 176) rfl)) rfl, ⟨by decide, by decide, by decide +kernel⟩, by decide⟩
theorem keRX6_7 : q_cpok q_mt "BlockedCars$Spots" (38, 0, 8, 0) := fun C T N h => by
    have h : some (RX9, TX9, 11) = some (C, T, N) := h
    cases h
    exact q_TB_in (q_mt1 (List.mem_of_getElem? (i := 79) rfl)) rfl
theorem keRX6_8 : q_cpok q_mt "BlockedCars$Spots" (43, 1, 199, 2) := ⟨(yX4_readNumber, cX4_readNumber, 5, (some .int)), rfl, q_TB_in (q_mt4 (List.mem_of_getElem? (i := 177) rfl)) rfl, q_TB_in (q_mt3 (List.mem_of_getElem? (i := 108) rfl)) rfl, q_TB_in (q_mt3 (List.mem_of_getElem? (i := 109) rfl)) rfl, q_TB_in (q_mt1 (List.mem_of_getElem? (i := 2) rfl)) rfl, q_TB_in (q_mt3 (List.mem_of_getElem? (i := 110) rfl)) rfl, ⟨by decide, by decide, by decide +kernel⟩, by decide⟩
theorem keRX6_9 : q_cpok q_mt "BlockedCars$Spots" (47, 1, 193, 0) := ⟨(yX4_skipBlanks, cX4_skipBlanks, 1, none), rfl, q_TB_in (q_mt4 (List.mem_of_getElem? (i := 178) rfl)) rfl, q_TB_in (q_mt3 (List.mem_of_getElem? (i := 25) rfl)) rfl, q_TB_in (q_mt3 (List.mem_of_getElem? (i := 26) rfl)) rfl, q_TB_in (q_mt1 (List.mem_of_getElem? (i := 2) rfl)) rfl, q_TB_in (q_mt3 (List.mem_of_getElem? (i := 27) rfl)) rfl, ⟨by decide, by decide, by decide +kernel⟩, by decide⟩
theorem keRX6_10 : q_cpok q_mt "BlockedCars$Spots" (50, 0, 4, 3) := fun C T N h => by
    have h : some (RX4, TX4, 7) = some (C, T, N) := h
    cases h
    exact q_TB_in (q_mt1 (List.mem_of_getElem? (i := 45) rfl)) rfl
theorem keRX6_11 : q_cpok q_mt "BlockedCars$Spots" (53, 1, 256, 1) := ⟨(yX9_placesOf, cX9_placesOf, 2, (some .int)), rfl, q_TB_in (q_mt4 (List.mem_of_getElem? (i := 179) rfl)) rfl, q_TB_in (q_mt4 (List.mem_of_getElem? (i := 58) rfl)) rfl, q_TB_in (q_mt4 (List.mem_of_getElem? (i := 59) rfl)) rfl, q_TB_in (q_mt1 (List.mem_of_getElem? (i := 3) rfl)) rfl, q_TB_in (q_mt4 (List.mem_of_getElem? (i := 60) rfl)) rfl, ⟨by decide, by decide, by decide +kernel⟩, by decide⟩
theorem keRX6_12 : q_cpok q_mt "BlockedCars$Spots" (57, 1, 191, 2) := ⟨(yX4_fail, cX4_fail, 3, none), rfl, q_TB_in (q_mt4 (List.mem_of_getElem? (i := 180) rfl)) rfl, q_TB_in (q_mt3 (List.mem_of_getElem? (i := 100) rfl)) rfl, q_TB_in (q_mt3 (List.mem_of_getElem? (i := 101) rfl)) rfl, q_TB_in (q_mt1 (List.mem_of_getElem? (i := 2) rfl)) rfl, q_TB_in (q_mt3 (List.mem_of_getElem? (i := 102) rfl)) rfl, ⟨by decide, by decide, by decide +kernel⟩, by decide⟩
theorem keRX6_13 : q_cpok q_mt "BlockedCars$Spots" (61, 1, 198, 1) := ⟨(yX4_readSign, cX4_readSign, 2, none), rfl, q_TB_in (q_mt4 (List.mem_of_getElem? (i := 181) rfl)) rfl, q_TB_in (q_mt3 (List.mem_of_getElem? (i := 129) rfl)) rfl, q_TB_in (q_mt3 (List.mem_of_getElem? (i := 130) rfl)) rfl, q_TB_in (q_mt1 (List.mem_of_getElem? (i := 2) rfl)) rfl, q_TB_in (q_mt3 (List.mem_of_getElem? (i := 131) rfl)) rfl, ⟨by decide, by decide, by decide +kernel⟩, by decide⟩
theorem keRX6_14 : q_cpok q_mt "BlockedCars$Spots" (65, 0, 8, 1) := fun C T N h => by
    have h : some (RX9, TX9, 11) = some (C, T, N) := h
    cases h
    exact q_TB_in (q_mt1 (List.mem_of_getElem? (i := 87) rfl)) rfl
theorem keRX6_15 : q_cpok q_mt "BlockedCars$Spots" (68, 0, 6, 4) := fun C T N h => by
    have h : some (RX6, TX6, 5) = some (C, T, N) := h
    cases h
    exact q_TB_in (q_mt1 (List.mem_of_getElem? (i := 160) rfl)) rfl
theorem keRX6_16 : q_cpok q_mt "BlockedCars$Spots" (69, 0, 6, 2) := fun C T N h => by
    have h : some (RX6, TX6, 5) = some (C, T, N) := h
    cases h
    exact q_TB_in (q_mt1 (List.mem_of_getElem? (i := 158) rfl)) rfl
theorem keRX6_17 : q_cpok q_mt "BlockedCars$Spots" (72, 1, 262, 3) := ⟨(yX9_carOn, cX9_carOn, 10, (some .int)), rfl, q_TB_in (q_mt5 (List.mem_of_getElem? (i := 200) rfl)) rfl, q_TB_in (q_mt5 (List.mem_of_getElem? (i := 23) rfl)) rfl, q_TB_in (q_mt5 (List.mem_of_getElem? (i := 24) rfl)) rfl, q_TB_in (q_mt1 (List.mem_of_getElem? (i := 3) rfl)) rfl, q_TB_in (q_mt5 (List.mem_of_getElem? (i := 25) rfl)) rfl, ⟨by decide, by decide, by decide +kernel⟩, by decide⟩
theorem keRX6_18 : q_cpok q_mt "BlockedCars$Spots" (76, 1, 216, 1) := ⟨(yX6_isRight, cX6_isRight, 4, (some .boolean)), rfl, q_TB_in (q_mt5 (List.mem_of_getElem? (i := 205) rfl)) rfl, q_TB_in (q_mt5 (List.mem_of_getElem? (i := 207) rfl)) rfl, q_TB_in (q_pv3 (i := 6) rfl) rfl, q_TB_in (q_mt1 (List.mem_of_getElem? (i := 5) rfl)) rfl, q_TB_in (q_mt5 (List.mem_of_getElem? (i := 208) rfl)) rfl, ⟨by decide, by decide, by decide +kernel⟩, by decide⟩
theorem keRX6_19 : q_cpok q_mt "BlockedCars$Spots" (80, 4, 39, 3) := ⟨(yX10_isWithin, cX10_isWithin, 3, (some .boolean)), rfl, rfl, rfl, rfl, q_TB_in (q_mt2 (List.mem_of_getElem? (i := 173) rfl)) rfl, q_TB_in (q_mt1 (List.mem_of_getElem? (i := 1) rfl)) rfl, q_TB_in (q_mt2 (List.mem_of_getElem? (i := 174) rfl)) rfl, ⟨by decide, by decide, by decide +kernel⟩, by decide⟩
theorem keRX6_20 : q_cpok q_mt "BlockedCars$Spots" (84, 3, 1, 0) := q_TB_in (q_mt5 (List.mem_of_getElem? (i := 233) rfl)) rfl
theorem keRX6_21 : q_cpok q_mt "BlockedCars$Spots" (89, 1, 220, 1) := ⟨(yX6_worstAt, cX6_worstAt, 6, (some .int)), rfl, q_TB_in (q_mt5 (List.mem_of_getElem? (i := 228) rfl)) rfl, q_TB_in (q_mt5 (List.mem_of_getElem? (i := 229) rfl)) rfl, q_TB_in (q_mt5 (List.mem_of_getElem? (i := 230) rfl)) rfl, q_TB_in (q_mt1 (List.mem_of_getElem? (i := 5) rfl)) rfl, q_TB_in (q_mt5 (List.mem_of_getElem? (i := 231) rfl)) rfl, ⟨by decide, by decide, by decide +kernel⟩, by decide⟩
theorem koRX6 : q_kok q_mt "BlockedCars$Spots" kpRX6 := ⟨List.forall_mem_cons.mpr ⟨keRX6_0, List.forall_mem_cons.mpr ⟨keRX6_1, List.forall_mem_cons.mpr ⟨keRX6_2, List.forall_mem_cons.mpr ⟨keRX6_3, List.forall_mem_cons.mpr ⟨keRX6_4, List.forall_mem_cons.mpr ⟨keRX6_5, List.forall_mem_cons.mpr ⟨keRX6_6, List.forall_mem_cons.mpr ⟨keRX6_7, List.forall_mem_cons.mpr ⟨keRX6_8, List.forall_mem_cons.mpr ⟨keRX6_9, List.forall_mem_cons.mpr ⟨keRX6_10, List.forall_mem_cons.mpr ⟨keRX6_11, List.forall_mem_cons.mpr ⟨keRX6_12, List.forall_mem_cons.mpr ⟨keRX6_13, List.forall_mem_cons.mpr ⟨keRX6_14, List.forall_mem_cons.mpr ⟨keRX6_15, List.forall_mem_cons.mpr ⟨keRX6_16, List.forall_mem_cons.mpr ⟨keRX6_17, List.forall_mem_cons.mpr ⟨keRX6_18, List.forall_mem_cons.mpr ⟨keRX6_19, List.forall_mem_cons.mpr ⟨keRX6_20, List.forall_mem_cons.mpr ⟨keRX6_21, (fun _ h => nomatch h)⟩⟩⟩⟩⟩⟩⟩⟩⟩⟩⟩⟩⟩⟩⟩⟩⟩⟩⟩⟩⟩⟩, (fun _ h => nomatch h), (fun _ h => nomatch h), (fun _ h => nomatch h)⟩
def kpRX7 : qK := ([(16, 2, 222, 2), (20, 2, 223, 3), (24, 2, 229, 2), (27, 2, 228, 1)], [(11, 262143)], [(12, 262143), (14, (-1))], [])
theorem keRX7_0 : q_cpok q_mt "BlockedCars$Stand" (16, 2, 222, 2) := ⟨(yX7_rowOf, cX7_rowOf, 3, (some .int)), rfl, q_TB_in (q_mt4 (List.mem_of_getElem? (i := 73) rfl)) rfl, q_TB_in (q_mt4 (List.mem_of_getElem? (i := 62) rfl)) rfl, q_TB_in (q_mt1 (List.mem_of_getElem? (i := 23) rfl)) rfl, q_TB_in (q_mt4 (List.mem_of_getElem? (i := 63) rfl)) rfl, ⟨by decide, by decide, by decide +kernel⟩, by decide⟩
theorem keRX7_1 : q_cpok q_mt "BlockedCars$Stand" (20, 2, 223, 3) := ⟨(yX7_withRow, cX7_withRow, 5, (some .long)), rfl, q_TB_in (q_mt4 (List.mem_of_getElem? (i := 74) rfl)) rfl, q_TB_in (q_mt4 (List.mem_of_getElem? (i := 75) rfl)) rfl, q_TB_in (q_mt1 (List.mem_of_getElem? (i := 23) rfl)) rfl, q_TB_in (q_mt4 (List.mem_of_getElem? (i := 76) rfl)) rfl, ⟨by decide, by decide, by decide +kernel⟩, by decide⟩
theorem keRX7_2 : q_cpok q_mt "BlockedCars$Stand" (24, 2, 229, 2) := ⟨(yX7_slotOf, cX7_slotOf, 4, (some .int)), rfl, q_TB_in (q_mt4 (List.mem_of_getElem? (i := 50) rfl)) rfl, q_TB_in (q_mt4 (List.mem_of_getElem? (i := 51) rfl)) rfl, q_TB_in (q_mt1 (List.mem_of_getElem? (i := 23) rfl)) rfl, q_TB_in (q_mt4 (List.mem_of_getElem? (i := 52) rfl)) rfl, ⟨by decide, by decide, by decide +kernel⟩, by decide⟩
theorem keRX7_3 : q_cpok q_mt "BlockedCars$Stand" (27, 2, 228, 1) := ⟨(yX7_carsIn, cX7_carsIn, 5, (some .int)), rfl, q_TB_in (q_mt5 (List.mem_of_getElem? (i := 64) rfl)) rfl, q_TB_in (q_mt4 (List.mem_of_getElem? (i := 97) rfl)) rfl, q_TB_in (q_mt1 (List.mem_of_getElem? (i := 23) rfl)) rfl, q_TB_in (q_mt4 (List.mem_of_getElem? (i := 98) rfl)) rfl, ⟨by decide, by decide, by decide +kernel⟩, by decide⟩
theorem koRX7 : q_kok q_mt "BlockedCars$Stand" kpRX7 := ⟨List.forall_mem_cons.mpr ⟨keRX7_0, List.forall_mem_cons.mpr ⟨keRX7_1, List.forall_mem_cons.mpr ⟨keRX7_2, List.forall_mem_cons.mpr ⟨keRX7_3, (fun _ h => nomatch h)⟩⟩⟩⟩, List.forall_mem_cons.mpr ⟨q_TB_in (q_mt4 (List.mem_of_getElem? (i := 64) rfl)) rfl, (fun _ h => nomatch h)⟩, List.forall_mem_cons.mpr ⟨q_TB_in (q_mt4 (List.mem_of_getElem? (i := 77) rfl)) rfl, List.forall_mem_cons.mpr ⟨q_TB_in (q_mt4 (List.mem_of_getElem? (i := 78) rfl)) rfl, (fun _ h => nomatch h)⟩⟩, (fun _ h => nomatch h)⟩
def kpRX8 : qK := ([(9, 0, 7, 0), (15, 0, 7, 1), (18, 0, 7, 2), (21, 0, 7, 3), (24, 0, 7, 4), (27, 0, 7, 5), (31, 1, 235, 3), (35, 1, 190, 0), (41, 1, 194, 0), (44, 1, 196, 1), (48, 1, 236, 3), (51, 1, 198, 1), (55, 1, 200, 0), (60, 1, 201, 1), (64, 0, 8, 1), (69, 1, 199, 2), (73, 2, 237, 2), (77, 1, 239, 4), (89, 1, 238, 3), (92, 0, 4, 4), (95, 1, 191, 2), (99, 0, 8, 0), (102, 0, 7, 6), (105, 0, 7, 7), (109, 1, 241, 1), (113, 1, 243, 4), (117, 1, 242, 1), (121, 2, 244, 4), (124, 1, 245, 4), (126, 2, 246, 2), (130, 0, 3, 0), (136, 1, 268, 1), (140, 1, 182, 1), (144, 2, 230, 2), (150, 1, 261, 2), (153, 1, 257, 1), (156, 2, 227, 3), (160, 2, 224, 2), (163, 1, 260, 1), (166, 0, 3, 1), (169, 1, 173, 4), (175, 1, 183, 1), (179, 2, 226, 2)], [(108, 1000000)], [], [(58, 15), (81, 16), (83, 17), (85, 18), (87, 19)])
theorem keRX8_0 : q_cpok q_mt "BlockedCars$Work" (9, 0, 7, 0) := fun C T N h => by
    have h : some (RX8, TX8, 8) = some (C, T, N) := h
    cases h
    exact q_TB_in (q_mt1 (List.mem_of_getElem? (i := 178) rfl)) rfl
theorem keRX8_1 : q_cpok q_mt "BlockedCars$Work" (15, 0, 7, 1) := fun C T N h => by
    have h : some (RX8, TX8, 8) = some (C, T, N) := h
    cases h
    exact q_TB_in (q_mt1 (List.mem_of_getElem? (i := 179) rfl)) rfl
theorem keRX8_2 : q_cpok q_mt "BlockedCars$Work" (18, 0, 7, 2) := fun C T N h => by
    have h : some (RX8, TX8, 8) = some (C, T, N) := h
    cases h
    exact q_TB_in (q_mt1 (List.mem_of_getElem? (i := 180) rfl)) rfl
theorem keRX8_3 : q_cpok q_mt "BlockedCars$Work" (21, 0, 7, 3) := fun C T N h => by
    have h : some (RX8, TX8, 8) = some (C, T, N) := h
    cases h
    exact q_TB_in (q_mt1 (List.mem_of_getElem? (i := 181) rfl)) rfl
theorem keRX8_4 : q_cpok q_mt "BlockedCars$Work" (24, 0, 7, 4) := fun C T N h => by
    have h : some (RX8, TX8, 8) = some (C, T, N) := h
    cases h
    exact q_TB_in (q_mt1 (List.mem_of_getElem? (i := 182) rfl)) rfl
theorem keRX8_5 : q_cpok q_mt "BlockedCars$Work" (27, 0, 7, 5) := fun C T N h => by
    have h : some (RX8, TX8, 8) = some (C, T, N) := h
    cases h
    exact q_TB_in (q_mt1 (List.mem_of_getElem? (i := 183) rfl)) rfl
theorem keRX8_6 : q_cpok q_mt "BlockedCars$Work" (31, 1, 235, 3) := ⟨(yX8_readSteps, cX8_readSteps, 5, none), rfl, q_TB_in (q_mt3 (List.mem_of_getElem? (i := 229) rfl)) rfl, q_TB_in (q_mt3 (List.mem_of_getElem? (i := 231) rfl)) rfl, q_TB_in (q_pv1 (i := 15) rfl) rfl, q_TB_in (q_mt1 (List.mem_of_getElem? (i := 6) rfl)) rfl, q_TB_in (q_mt3 (List.mem_of_getElem? (i := 232) rfl)) rfl, ⟨by decide, by decide, by decide +kernel⟩, by decide⟩
theorem keRX8_7 : q_cpok q_mt "BlockedCars$Work" (35, 1, 190, 0) := ⟨(yX4_isSound, cX4_isSound, 1, (some .boolean)), rfl, q_TB_in (q_mt3 (List.mem_of_getElem? (i := 233) rfl)) rfl, q_TB_in (q_mt3 (List.mem_of_getElem? (i := 17) rfl)) rfl, q_TB_in (q_mt3 (List.mem_of_getElem? (i := 18) rfl)) rfl, q_TB_in (q_mt1 (List.mem_of_getElem? (i := 2) rfl)) rfl, q_TB_in (q_mt3 (List.mem_of_getElem? (i := 19) rfl)) rfl, ⟨by decide, by decide, by decide +kernel⟩, by decide⟩
theorem keRX8_8 : q_cpok q_mt "BlockedCars$Work" (41, 1, 194, 0) := ⟨(yX4_isAtEnd, cX4_isAtEnd, 1, (some .boolean)), rfl, q_TB_in (q_mt3 (List.mem_of_getElem? (i := 234) rfl)) rfl, q_TB_in (q_mt3 (List.mem_of_getElem? (i := 21) rfl)) rfl, q_TB_in (q_mt3 (List.mem_of_getElem? (i := 22) rfl)) rfl, q_TB_in (q_mt1 (List.mem_of_getElem? (i := 2) rfl)) rfl, q_TB_in (q_mt3 (List.mem_of_getElem? (i := 23) rfl)) rfl, ⟨by decide, by decide, by decide +kernel⟩, by decide⟩
theorem keRX8_9 : q_cpok q_mt "BlockedCars$Work" (44, 1, 196, 1) := ⟨(yX4_isNext, cX4_isNext, 2, (some .boolean)), rfl, q_TB_in (q_mt3 (List.mem_of_getElem? (i := 235) rfl)) rfl, q_TB_in (q_mt3 (List.mem_of_getElem? (i := 182) rfl)) rfl, q_TB_in (q_mt3 (List.mem_of_getElem? (i := 183) rfl)) rfl, q_TB_in (q_mt1 (List.mem_of_getElem? (i := 2) rfl)) rfl, q_TB_in (q_mt3 (List.mem_of_getElem? (i := 184) rfl)) rfl, ⟨by decide, by decide, by decide +kernel⟩, by decide⟩
theorem keRX8_10 : q_cpok q_mt "BlockedCars$Work" (48, 1, 236, 3) := ⟨(yX8_readStep, cX8_readStep, 6, none), rfl, q_TB_in (q_mt3 (List.mem_of_getElem? (i := 236) rfl)) rfl, q_TB_in (q_mt3 (List.mem_of_getElem? (i := 238) rfl)) rfl, q_TB_in (q_pv2 (i := 0) rfl) rfl, q_TB_in (q_mt1 (List.mem_of_getElem? (i := 6) rfl)) rfl, q_TB_in (q_mt3 (List.mem_of_getElem? (i := 239) rfl)) rfl, ⟨by decide, by decide, by decide +kernel⟩, by decide⟩
theorem keRX8_11 : q_cpok q_mt "BlockedCars$Work" (51, 1, 198, 1) := ⟨(yX4_readSign, cX4_readSign, 2, none), rfl, q_TB_in (q_mt4 (List.mem_of_getElem? (i := 20) rfl)) rfl, q_TB_in (q_mt3 (List.mem_of_getElem? (i := 129) rfl)) rfl, q_TB_in (q_mt3 (List.mem_of_getElem? (i := 130) rfl)) rfl, q_TB_in (q_mt1 (List.mem_of_getElem? (i := 2) rfl)) rfl, q_TB_in (q_mt3 (List.mem_of_getElem? (i := 131) rfl)) rfl, ⟨by decide, by decide, by decide +kernel⟩, by decide⟩
theorem keRX8_12 : q_cpok q_mt "BlockedCars$Work" (55, 1, 200, 0) := ⟨(yX4_readWord, cX4_readWord, 1, none), rfl, q_TB_in (q_mt4 (List.mem_of_getElem? (i := 0) rfl)) rfl, q_TB_in (q_mt3 (List.mem_of_getElem? (i := 33) rfl)) rfl, q_TB_in (q_mt3 (List.mem_of_getElem? (i := 34) rfl)) rfl, q_TB_in (q_mt1 (List.mem_of_getElem? (i := 2) rfl)) rfl, q_TB_in (q_mt3 (List.mem_of_getElem? (i := 35) rfl)) rfl, ⟨by decide, by decide, by decide +kernel⟩, by decide⟩
theorem keRX8_13 : q_cpok q_mt "BlockedCars$Work" (60, 1, 201, 1) := ⟨(yX4_isWord, cX4_isWord, 3, (some .boolean)), rfl, q_TB_in (q_mt4 (List.mem_of_getElem? (i := 2) rfl)) rfl, q_TB_in (q_mt3 (List.mem_of_getElem? (i := 45) rfl)) rfl, q_TB_in (q_mt3 (List.mem_of_getElem? (i := 46) rfl)) rfl, q_TB_in (q_mt1 (List.mem_of_getElem? (i := 2) rfl)) rfl, q_TB_in (q_mt3 (List.mem_of_getElem? (i := 47) rfl)) rfl, ⟨by decide, by decide, by decide +kernel⟩, by decide⟩
theorem keRX8_14 : q_cpok q_mt "BlockedCars$Work" (64, 0, 8, 1) := fun C T N h => by
    have h : some (RX9, TX9, 11) = some (C, T, N) := h
    cases h
    exact q_TB_in (q_mt1 (List.mem_of_getElem? (i := 86) rfl)) rfl
theorem keRX8_15 : q_cpok q_mt "BlockedCars$Work" (69, 1, 199, 2) := ⟨(yX4_readNumber, cX4_readNumber, 5, (some .int)), rfl, q_TB_in (q_mt4 (List.mem_of_getElem? (i := 3) rfl)) rfl, q_TB_in (q_mt3 (List.mem_of_getElem? (i := 108) rfl)) rfl, q_TB_in (q_mt3 (List.mem_of_getElem? (i := 109) rfl)) rfl, q_TB_in (q_mt1 (List.mem_of_getElem? (i := 2) rfl)) rfl, q_TB_in (q_mt3 (List.mem_of_getElem? (i := 110) rfl)) rfl, ⟨by decide, by decide, by decide +kernel⟩, by decide⟩
theorem keRX8_16 : q_cpok q_mt "BlockedCars$Work" (73, 2, 237, 2) := ⟨(yX8_readLane, cX8_readLane, 2, (some .int)), rfl, q_TB_in (q_mt4 (List.mem_of_getElem? (i := 4) rfl)) rfl, q_TB_in (q_mt4 (List.mem_of_getElem? (i := 5) rfl)) rfl, q_TB_in (q_mt1 (List.mem_of_getElem? (i := 6) rfl)) rfl, q_TB_in (q_mt4 (List.mem_of_getElem? (i := 6) rfl)) rfl, ⟨by decide, by decide, by decide +kernel⟩, by decide⟩
theorem keRX8_17 : q_cpok q_mt "BlockedCars$Work" (77, 1, 239, 4) := ⟨(yX8_write, cX8_write, 5, none), rfl, q_TB_in (q_mt4 (List.mem_of_getElem? (i := 7) rfl)) rfl, q_TB_in (q_mt4 (List.mem_of_getElem? (i := 9) rfl)) rfl, q_TB_in (q_pv2 (i := 1) rfl) rfl, q_TB_in (q_mt1 (List.mem_of_getElem? (i := 6) rfl)) rfl, q_TB_in (q_mt4 (List.mem_of_getElem? (i := 10) rfl)) rfl, ⟨by decide, by decide, by decide +kernel⟩, by decide⟩
theorem keRX8_18 : q_cpok q_mt "BlockedCars$Work" (89, 1, 238, 3) := ⟨(yX8_readAgain, cX8_readAgain, 5, none), rfl, q_TB_in (q_mt4 (List.mem_of_getElem? (i := 15) rfl)) rfl, q_TB_in (q_mt4 (List.mem_of_getElem? (i := 17) rfl)) rfl, q_TB_in (q_pv2 (i := 2) rfl) rfl, q_TB_in (q_mt1 (List.mem_of_getElem? (i := 6) rfl)) rfl, q_TB_in (q_mt4 (List.mem_of_getElem? (i := 18) rfl)) rfl, ⟨by decide, by decide, by decide +kernel⟩, by decide⟩
theorem keRX8_19 : q_cpok q_mt "BlockedCars$Work" (92, 0, 4, 4) := fun C T N h => by
    have h : some (RX4, TX4, 7) = some (C, T, N) := h
    cases h
    exact q_TB_in (q_mt1 (List.mem_of_getElem? (i := 48) rfl)) rfl
theorem keRX8_20 : q_cpok q_mt "BlockedCars$Work" (95, 1, 191, 2) := ⟨(yX4_fail, cX4_fail, 3, none), rfl, q_TB_in (q_mt4 (List.mem_of_getElem? (i := 19) rfl)) rfl, q_TB_in (q_mt3 (List.mem_of_getElem? (i := 100) rfl)) rfl, q_TB_in (q_mt3 (List.mem_of_getElem? (i := 101) rfl)) rfl, q_TB_in (q_mt1 (List.mem_of_getElem? (i := 2) rfl)) rfl, q_TB_in (q_mt3 (List.mem_of_getElem? (i := 102) rfl)) rfl, ⟨by decide, by decide, by decide +kernel⟩, by decide⟩
theorem keRX8_21 : q_cpok q_mt "BlockedCars$Work" (99, 0, 8, 0) := fun C T N h => by
    have h : some (RX9, TX9, 11) = some (C, T, N) := h
    cases h
    exact q_TB_in (q_mt1 (List.mem_of_getElem? (i := 81) rfl)) rfl
theorem keRX8_22 : q_cpok q_mt "BlockedCars$Work" (102, 0, 7, 6) := fun C T N h => by
    have h : some (RX8, TX8, 8) = some (C, T, N) := h
    cases h
    exact q_TB_in (q_mt1 (List.mem_of_getElem? (i := 185) rfl)) rfl
theorem keRX8_23 : q_cpok q_mt "BlockedCars$Work" (105, 0, 7, 7) := fun C T N h => by
    have h : some (RX8, TX8, 8) = some (C, T, N) := h
    cases h
    exact q_TB_in (q_mt1 (List.mem_of_getElem? (i := 187) rfl)) rfl
theorem keRX8_24 : q_cpok q_mt "BlockedCars$Work" (109, 1, 241, 1) := ⟨(yX8_endRound, cX8_endRound, 3, (some .int)), rfl, q_TB_in (q_mt4 (List.mem_of_getElem? (i := 36) rfl)) rfl, q_TB_in (q_mt4 (List.mem_of_getElem? (i := 38) rfl)) rfl, q_TB_in (q_pv2 (i := 3) rfl) rfl, q_TB_in (q_mt1 (List.mem_of_getElem? (i := 6) rfl)) rfl, q_TB_in (q_mt4 (List.mem_of_getElem? (i := 39) rfl)) rfl, ⟨by decide, by decide, by decide +kernel⟩, by decide⟩
theorem keRX8_25 : q_cpok q_mt "BlockedCars$Work" (113, 1, 243, 4) := ⟨(yX8_doStep, cX8_doStep, 5, (some .boolean)), rfl, q_TB_in (q_mt4 (List.mem_of_getElem? (i := 40) rfl)) rfl, q_TB_in (q_mt4 (List.mem_of_getElem? (i := 42) rfl)) rfl, q_TB_in (q_pv2 (i := 4) rfl) rfl, q_TB_in (q_mt1 (List.mem_of_getElem? (i := 6) rfl)) rfl, q_TB_in (q_mt4 (List.mem_of_getElem? (i := 43) rfl)) rfl, ⟨by decide, by decide, by decide +kernel⟩, by decide⟩
theorem keRX8_26 : q_cpok q_mt "BlockedCars$Work" (117, 1, 242, 1) := ⟨(yX8_countStep, cX8_countStep, 2, none), rfl, q_TB_in (q_mt4 (List.mem_of_getElem? (i := 155) rfl)) rfl, q_TB_in (q_mt4 (List.mem_of_getElem? (i := 157) rfl)) rfl, q_TB_in (q_pv2 (i := 7) rfl) rfl, q_TB_in (q_mt1 (List.mem_of_getElem? (i := 6) rfl)) rfl, q_TB_in (q_mt4 (List.mem_of_getElem? (i := 158) rfl)) rfl, ⟨by decide, by decide, by decide +kernel⟩, by decide⟩
theorem keRX8_27 : q_cpok q_mt "BlockedCars$Work" (121, 2, 244, 4) := ⟨(yX8_park, cX8_park, 4, (some .boolean)), rfl, q_TB_in (q_mt4 (List.mem_of_getElem? (i := 44) rfl)) rfl, q_TB_in (q_mt4 (List.mem_of_getElem? (i := 45) rfl)) rfl, q_TB_in (q_mt1 (List.mem_of_getElem? (i := 6) rfl)) rfl, q_TB_in (q_mt4 (List.mem_of_getElem? (i := 46) rfl)) rfl, ⟨by decide, by decide, by decide +kernel⟩, by decide⟩
theorem keRX8_28 : q_cpok q_mt "BlockedCars$Work" (124, 1, 245, 4) := ⟨(yX8_move, cX8_move, 9, (some .boolean)), rfl, q_TB_in (q_mt4 (List.mem_of_getElem? (i := 79) rfl)) rfl, q_TB_in (q_mt4 (List.mem_of_getElem? (i := 81) rfl)) rfl, q_TB_in (q_pv2 (i := 5) rfl) rfl, q_TB_in (q_mt1 (List.mem_of_getElem? (i := 6) rfl)) rfl, q_TB_in (q_mt4 (List.mem_of_getElem? (i := 82) rfl)) rfl, ⟨by decide, by decide, by decide +kernel⟩, by decide⟩
theorem keRX8_29 : q_cpok q_mt "BlockedCars$Work" (126, 2, 246, 2) := ⟨(yX8_driveOff, cX8_driveOff, 2, (some .boolean)), rfl, q_TB_in (q_mt4 (List.mem_of_getElem? (i := 137) rfl)) rfl, q_TB_in (q_mt4 (List.mem_of_getElem? (i := 138) rfl)) rfl, q_TB_in (q_mt1 (List.mem_of_getElem? (i := 6) rfl)) rfl, q_TB_in (q_mt4 (List.mem_of_getElem? (i := 139) rfl)) rfl, ⟨by decide, by decide, by decide +kernel⟩, by decide⟩
theorem keRX8_30 : q_cpok q_mt "BlockedCars$Work" (130, 0, 3, 0) := fun C T N h => by
    have h : some (RX3, TX3, 3) = some (C, T, N) := h
    cases h
    exact q_TB_in (q_mt1 (List.mem_of_getElem? (i := 220) rfl)) rfl
theorem keRX8_31 : q_cpok q_mt "BlockedCars$Work" (136, 1, 268, 1) := ⟨(yX9_comeHome, cX9_comeHome, 8, (some .long)), rfl, q_TB_in (q_mt4 (List.mem_of_getElem? (i := 140) rfl)) rfl, q_TB_in (q_mt4 (List.mem_of_getElem? (i := 141) rfl)) rfl, q_TB_in (q_mt4 (List.mem_of_getElem? (i := 142) rfl)) rfl, q_TB_in (q_mt1 (List.mem_of_getElem? (i := 3) rfl)) rfl, q_TB_in (q_mt4 (List.mem_of_getElem? (i := 143) rfl)) rfl, ⟨by decide, by decide, by decide +kernel⟩, by decide⟩
theorem keRX8_32 : q_cpok q_mt "BlockedCars$Work" (140, 1, 182, 1) := ⟨(yX3_standsAs, cX3_standsAs, 4, (some .boolean)), rfl, q_TB_in (q_mt4 (List.mem_of_getElem? (i := 151) rfl)) rfl, q_TB_in (q_mt4 (List.mem_of_getElem? (i := 152) rfl)) rfl, q_TB_in (q_mt4 (List.mem_of_getElem? (i := 153) rfl)) rfl, q_TB_in (q_mt1 (List.mem_of_getElem? (i := 8) rfl)) rfl, q_TB_in (q_mt4 (List.mem_of_getElem? (i := 154) rfl)) rfl, ⟨by decide, by decide, by decide +kernel⟩, by decide⟩
theorem keRX8_33 : q_cpok q_mt "BlockedCars$Work" (144, 2, 230, 2) := ⟨(yX7_laneOf, cX7_laneOf, 4, (some .int)), rfl, q_TB_in (q_mt4 (List.mem_of_getElem? (i := 47) rfl)) rfl, q_TB_in (q_mt4 (List.mem_of_getElem? (i := 48) rfl)) rfl, q_TB_in (q_mt1 (List.mem_of_getElem? (i := 23) rfl)) rfl, q_TB_in (q_mt4 (List.mem_of_getElem? (i := 49) rfl)) rfl, ⟨by decide, by decide, by decide +kernel⟩, by decide⟩
theorem keRX8_34 : q_cpok q_mt "BlockedCars$Work" (150, 1, 261, 2) := ⟨(yX9_roomOf, cX9_roomOf, 6, (some .int)), rfl, q_TB_in (q_mt4 (List.mem_of_getElem? (i := 53) rfl)) rfl, q_TB_in (q_mt4 (List.mem_of_getElem? (i := 54) rfl)) rfl, q_TB_in (q_mt4 (List.mem_of_getElem? (i := 55) rfl)) rfl, q_TB_in (q_mt1 (List.mem_of_getElem? (i := 3) rfl)) rfl, q_TB_in (q_mt4 (List.mem_of_getElem? (i := 56) rfl)) rfl, ⟨by decide, by decide, by decide +kernel⟩, by decide⟩
theorem keRX8_35 : q_cpok q_mt "BlockedCars$Work" (153, 1, 257, 1) := ⟨(yX9_lengthOf, cX9_lengthOf, 2, (some .int)), rfl, q_TB_in (q_mt4 (List.mem_of_getElem? (i := 69) rfl)) rfl, q_TB_in (q_mt4 (List.mem_of_getElem? (i := 66) rfl)) rfl, q_TB_in (q_mt4 (List.mem_of_getElem? (i := 67) rfl)) rfl, q_TB_in (q_mt1 (List.mem_of_getElem? (i := 3) rfl)) rfl, q_TB_in (q_mt4 (List.mem_of_getElem? (i := 68) rfl)) rfl, ⟨by decide, by decide, by decide +kernel⟩, by decide⟩
theorem keRX8_36 : q_cpok q_mt "BlockedCars$Work" (156, 2, 227, 3) := ⟨(yX7_driveIn, cX7_driveIn, 4, (some .long)), rfl, q_TB_in (q_mt4 (List.mem_of_getElem? (i := 70) rfl)) rfl, q_TB_in (q_mt4 (List.mem_of_getElem? (i := 71) rfl)) rfl, q_TB_in (q_mt1 (List.mem_of_getElem? (i := 23) rfl)) rfl, q_TB_in (q_mt4 (List.mem_of_getElem? (i := 72) rfl)) rfl, ⟨by decide, by decide, by decide +kernel⟩, by decide⟩
theorem keRX8_37 : q_cpok q_mt "BlockedCars$Work" (160, 2, 224, 2) := ⟨(yX7_frontOf, cX7_frontOf, 3, (some .int)), rfl, q_TB_in (q_mt4 (List.mem_of_getElem? (i := 83) rfl)) rfl, q_TB_in (q_mt4 (List.mem_of_getElem? (i := 84) rfl)) rfl, q_TB_in (q_mt1 (List.mem_of_getElem? (i := 23) rfl)) rfl, q_TB_in (q_mt4 (List.mem_of_getElem? (i := 85) rfl)) rfl, ⟨by decide, by decide, by decide +kernel⟩, by decide⟩
theorem keRX8_38 : q_cpok q_mt "BlockedCars$Work" (163, 1, 260, 1) := ⟨(yX9_keysOf, cX9_keysOf, 2, (some .int)), rfl, q_TB_in (q_mt4 (List.mem_of_getElem? (i := 86) rfl)) rfl, q_TB_in (q_mt4 (List.mem_of_getElem? (i := 87) rfl)) rfl, q_TB_in (q_mt4 (List.mem_of_getElem? (i := 88) rfl)) rfl, q_TB_in (q_mt1 (List.mem_of_getElem? (i := 3) rfl)) rfl, q_TB_in (q_mt4 (List.mem_of_getElem? (i := 89) rfl)) rfl, ⟨by decide, by decide, by decide +kernel⟩, by decide⟩
theorem keRX8_39 : q_cpok q_mt "BlockedCars$Work" (166, 0, 3, 1) := fun C T N h => by
    have h : some (RX3, TX3, 3) = some (C, T, N) := h
    cases h
    exact q_TB_in (q_mt1 (List.mem_of_getElem? (i := 224) rfl)) rfl
theorem keRX8_40 : q_cpok q_mt "BlockedCars$Work" (169, 1, 173, 4) := ⟨(yX1_secondsNow, cX1_secondsNow, 7, (some .int)), rfl, q_TB_in (q_mt4 (List.mem_of_getElem? (i := 90) rfl)) rfl, q_TB_in (q_mt4 (List.mem_of_getElem? (i := 91) rfl)) rfl, q_TB_in (q_mt4 (List.mem_of_getElem? (i := 92) rfl)) rfl, q_TB_in (q_mt1 (List.mem_of_getElem? (i := 4) rfl)) rfl, q_TB_in (q_mt4 (List.mem_of_getElem? (i := 93) rfl)) rfl, ⟨by decide, by decide, by decide +kernel⟩, by decide⟩
theorem keRX8_41 : q_cpok q_mt "BlockedCars$Work" (175, 1, 183, 1) := ⟨(yX3_addMove, cX3_addMove, 2, none), rfl, q_TB_in (q_mt4 (List.mem_of_getElem? (i := 130) rfl)) rfl, q_TB_in (q_mt4 (List.mem_of_getElem? (i := 131) rfl)) rfl, q_TB_in (q_mt4 (List.mem_of_getElem? (i := 132) rfl)) rfl, q_TB_in (q_mt1 (List.mem_of_getElem? (i := 8) rfl)) rfl, q_TB_in (q_mt4 (List.mem_of_getElem? (i := 133) rfl)) rfl, ⟨by decide, by decide, by decide +kernel⟩, by decide⟩
theorem keRX8_42 : q_cpok q_mt "BlockedCars$Work" (179, 2, 226, 2) := ⟨(yX7_driveOut, cX7_driveOut, 3, (some .long)), rfl, q_TB_in (q_mt4 (List.mem_of_getElem? (i := 134) rfl)) rfl, q_TB_in (q_mt4 (List.mem_of_getElem? (i := 135) rfl)) rfl, q_TB_in (q_mt1 (List.mem_of_getElem? (i := 23) rfl)) rfl, q_TB_in (q_mt4 (List.mem_of_getElem? (i := 136) rfl)) rfl, ⟨by decide, by decide, by decide +kernel⟩, by decide⟩
theorem koRX8 : q_kok q_mt "BlockedCars$Work" kpRX8 := ⟨List.forall_mem_cons.mpr ⟨keRX8_0, List.forall_mem_cons.mpr ⟨keRX8_1, List.forall_mem_cons.mpr ⟨keRX8_2, List.forall_mem_cons.mpr ⟨keRX8_3, List.forall_mem_cons.mpr ⟨keRX8_4, List.forall_mem_cons.mpr ⟨keRX8_5, List.forall_mem_cons.mpr ⟨keRX8_6, List.forall_mem_cons.mpr ⟨keRX8_7, List.forall_mem_cons.mpr ⟨keRX8_8, List.forall_mem_cons.mpr ⟨keRX8_9, List.forall_mem_cons.mpr ⟨keRX8_10, List.forall_mem_cons.mpr ⟨keRX8_11, List.forall_mem_cons.mpr ⟨keRX8_12, List.forall_mem_cons.mpr ⟨keRX8_13, List.forall_mem_cons.mpr ⟨keRX8_14, List.forall_mem_cons.mpr ⟨keRX8_15, List.forall_mem_cons.mpr ⟨keRX8_16, List.forall_mem_cons.mpr ⟨keRX8_17, List.forall_mem_cons.mpr ⟨keRX8_18, List.forall_mem_cons.mpr ⟨keRX8_19, List.forall_mem_cons.mpr ⟨keRX8_20, List.forall_mem_cons.mpr ⟨keRX8_21, List.forall_mem_cons.mpr ⟨keRX8_22, List.forall_mem_cons.mpr ⟨keRX8_23, List.forall_mem_cons.mpr ⟨keRX8_24, List.forall_mem_cons.mpr ⟨keRX8_25, List.forall_mem_cons.mpr ⟨keRX8_26, List.forall_mem_cons.mpr ⟨keRX8_27, List.forall_mem_cons.mpr ⟨keRX8_28, List.forall_mem_cons.mpr ⟨keRX8_29, List.forall_mem_cons.mpr ⟨keRX8_30, List.forall_mem_cons.mpr ⟨keRX8_31, List.forall_mem_cons.mpr ⟨keRX8_32, List.forall_mem_cons.mpr ⟨keRX8_33, List.forall_mem_cons.mpr ⟨keRX8_34, List.forall_mem_cons.mpr ⟨keRX8_35, List.forall_mem_cons.mpr ⟨keRX8_36, List.forall_mem_cons.mpr ⟨keRX8_37, List.forall_mem_cons.mpr ⟨keRX8_38, List.forall_mem_cons.mpr ⟨keRX8_39, List.forall_mem_cons.mpr ⟨keRX8_40, List.forall_mem_cons.mpr ⟨keRX8_41, List.forall_mem_cons.mpr ⟨keRX8_42, (fun _ h => nomatch h)⟩⟩⟩⟩⟩⟩⟩⟩⟩⟩⟩⟩⟩⟩⟩⟩⟩⟩⟩⟩⟩⟩⟩⟩⟩⟩⟩⟩⟩⟩⟩⟩⟩⟩⟩⟩⟩⟩⟩⟩⟩⟩⟩, List.forall_mem_cons.mpr ⟨q_TB_in (q_mt4 (List.mem_of_getElem? (i := 35) rfl)) rfl, (fun _ h => nomatch h)⟩, (fun _ h => nomatch h), List.forall_mem_cons.mpr ⟨List.mem_of_getElem? (i := 17) rfl, List.forall_mem_cons.mpr ⟨List.mem_of_getElem? (i := 18) rfl, List.forall_mem_cons.mpr ⟨List.mem_of_getElem? (i := 19) rfl, List.forall_mem_cons.mpr ⟨List.mem_of_getElem? (i := 20) rfl, List.forall_mem_cons.mpr ⟨List.mem_of_getElem? (i := 21) rfl, (fun _ h => nomatch h)⟩⟩⟩⟩⟩⟩
def kpRX9 : qK := ([(11, 0, 8, 2), (15, 0, 8, 3), (19, 0, 8, 4), (22, 0, 8, 5), (25, 0, 8, 6), (28, 0, 8, 7), (31, 0, 8, 8), (34, 0, 8, 9), (37, 0, 8, 10), (40, 0, 8, 0), (43, 0, 8, 1), (46, 1, 190, 0), (52, 1, 194, 0), (55, 1, 249, 2), (59, 1, 254, 0), (62, 1, 200, 0), (65, 2, 250, 1), (69, 0, 4, 4), (72, 1, 191, 2), (76, 1, 251, 1), (80, 1, 252, 1), (83, 1, 253, 1), (86, 1, 199, 2), (90, 1, 198, 1), (96, 1, 201, 1), (105, 1, 255, 2), (109, 2, 274, 1), (115, 3, 0, 0), (120, 1, 256, 1), (123, 2, 222, 2), (129, 1, 257, 1), (132, 2, 230, 2), (135, 1, 262, 3), (139, 1, 265, 2), (142, 2, 228, 1), (146, 2, 224, 2), (149, 2, 226, 2), (153, 1, 269, 1), (156, 1, 261, 2), (159, 2, 227, 3), (163, 2, 231, 2), (166, 1, 260, 1), (169, 1, 271, 3), (172, 1, 273, 2), (175, 1, 264, 1)], [], [], [(94, 3), (100, 4), (102, 5), (104, 6)])
theorem keRX9_0 : q_cpok q_mt "BlockedCars$Yard" (11, 0, 8, 2) := fun C T N h => by
    have h : some (RX9, TX9, 11) = some (C, T, N) := h
    cases h
    exact q_TB_in (q_mt1 (List.mem_of_getElem? (i := 88) rfl)) rfl
theorem keRX9_1 : q_cpok q_mt "BlockedCars$Yard" (15, 0, 8, 3) := fun C T N h => by
    have h : some (RX9, TX9, 11) = some (C, T, N) := h
    cases h
    exact q_TB_in (q_mt1 (List.mem_of_getElem? (i := 90) rfl)) rfl
theorem keRX9_2 : q_cpok q_mt "BlockedCars$Yard" (19, 0, 8, 4) := fun C T N h => by
    have h : some (RX9, TX9, 11) = some (C, T, N) := h
    cases h
    exact q_TB_in (q_mt1 (List.mem_of_getElem? (i := 91) rfl)) rfl
theorem keRX9_3 : q_cpok q_mt "BlockedCars$Yard" (22, 0, 8, 5) := fun C T N h => by
    have h : some (RX9, TX9, 11) = some (C, T, N) := h
    cases h
    exact q_TB_in (q_mt1 (List.mem_of_getElem? (i := 92) rfl)) rfl
theorem keRX9_4 : q_cpok q_mt "BlockedCars$Yard" (25, 0, 8, 6) := fun C T N h => by
    have h : some (RX9, TX9, 11) = some (C, T, N) := h
    cases h
    exact q_TB_in (q_mt1 (List.mem_of_getElem? (i := 93) rfl)) rfl
theorem keRX9_5 : q_cpok q_mt "BlockedCars$Yard" (28, 0, 8, 7) := fun C T N h => by
    have h : some (RX9, TX9, 11) = some (C, T, N) := h
    cases h
    exact q_TB_in (q_mt1 (List.mem_of_getElem? (i := 94) rfl)) rfl
theorem keRX9_6 : q_cpok q_mt "BlockedCars$Yard" (31, 0, 8, 8) := fun C T N h => by
    have h : some (RX9, TX9, 11) = some (C, T, N) := h
    cases h
    exact q_TB_in (q_mt1 (List.mem_of_getElem? (i := 95) rfl)) rfl
theorem keRX9_7 : q_cpok q_mt "BlockedCars$Yard" (34, 0, 8, 9) := fun C T N h => by
    have h : some (RX9, TX9, 11) = some (C, T, N) := h
    cases h
    exact q_TB_in (q_mt1 (List.mem_of_getElem? (i := 96) rfl)) rfl
theorem keRX9_8 : q_cpok q_mt "BlockedCars$Yard" (37, 0, 8, 10) := fun C T N h => by
    have h : some (RX9, TX9, 11) = some (C, T, N) := h
    cases h
    exact q_TB_in (q_mt1 (List.mem_of_getElem? (i := 97) rfl)) rfl
theorem keRX9_9 : q_cpok q_mt "BlockedCars$Yard" (40, 0, 8, 0) := fun C T N h => by
    have h : some (RX9, TX9, 11) = some (C, T, N) := h
    cases h
    exact q_TB_in (q_mt1 (List.mem_of_getElem? (i := 77) rfl)) rfl
theorem keRX9_10 : q_cpok q_mt "BlockedCars$Yard" (43, 0, 8, 1) := fun C T N h => by
    have h : some (RX9, TX9, 11) = some (C, T, N) := h
    cases h
    exact q_TB_in (q_mt1 (List.mem_of_getElem? (i := 83) rfl)) rfl
theorem keRX9_11 : q_cpok q_mt "BlockedCars$Yard" (46, 1, 190, 0) := ⟨(yX4_isSound, cX4_isSound, 1, (some .boolean)), rfl, q_TB_in (q_mt3 (List.mem_of_getElem? (i := 16) rfl)) rfl, q_TB_in (q_mt3 (List.mem_of_getElem? (i := 17) rfl)) rfl, q_TB_in (q_mt3 (List.mem_of_getElem? (i := 18) rfl)) rfl, q_TB_in (q_mt1 (List.mem_of_getElem? (i := 2) rfl)) rfl, q_TB_in (q_mt3 (List.mem_of_getElem? (i := 19) rfl)) rfl, ⟨by decide, by decide, by decide +kernel⟩, by decide⟩
theorem keRX9_12 : q_cpok q_mt "BlockedCars$Yard" (52, 1, 194, 0) := ⟨(yX4_isAtEnd, cX4_isAtEnd, 1, (some .boolean)), rfl, q_TB_in (q_mt3 (List.mem_of_getElem? (i := 20) rfl)) rfl, q_TB_in (q_mt3 (List.mem_of_getElem? (i := 21) rfl)) rfl, q_TB_in (q_mt3 (List.mem_of_getElem? (i := 22) rfl)) rfl, q_TB_in (q_mt1 (List.mem_of_getElem? (i := 2) rfl)) rfl, q_TB_in (q_mt3 (List.mem_of_getElem? (i := 23) rfl)) rfl, ⟨by decide, by decide, by decide +kernel⟩, by decide⟩
theorem keRX9_13 : q_cpok q_mt "BlockedCars$Yard" (55, 1, 249, 2) := ⟨(yX9_readClause, cX9_readClause, 4, none), rfl, q_TB_in (q_mt3 (List.mem_of_getElem? (i := 28) rfl)) rfl, q_TB_in (q_mt3 (List.mem_of_getElem? (i := 30) rfl)) rfl, q_TB_in (q_pv1 (i := 4) rfl) rfl, q_TB_in (q_mt1 (List.mem_of_getElem? (i := 3) rfl)) rfl, q_TB_in (q_mt3 (List.mem_of_getElem? (i := 31) rfl)) rfl, ⟨by decide, by decide, by decide +kernel⟩, by decide⟩
theorem keRX9_14 : q_cpok q_mt "BlockedCars$Yard" (59, 1, 254, 0) := ⟨(yX9_order, cX9_order, 5, none), rfl, q_TB_in (q_mt3 (List.mem_of_getElem? (i := 132) rfl)) rfl, q_TB_in (q_mt3 (List.mem_of_getElem? (i := 134) rfl)) rfl, q_TB_in (q_pv1 (i := 8) rfl) rfl, q_TB_in (q_mt1 (List.mem_of_getElem? (i := 3) rfl)) rfl, q_TB_in (q_mt3 (List.mem_of_getElem? (i := 135) rfl)) rfl, ⟨by decide, by decide, by decide +kernel⟩, by decide⟩
theorem keRX9_15 : q_cpok q_mt "BlockedCars$Yard" (62, 1, 200, 0) := ⟨(yX4_readWord, cX4_readWord, 1, none), rfl, q_TB_in (q_mt3 (List.mem_of_getElem? (i := 32) rfl)) rfl, q_TB_in (q_mt3 (List.mem_of_getElem? (i := 33) rfl)) rfl, q_TB_in (q_mt3 (List.mem_of_getElem? (i := 34) rfl)) rfl, q_TB_in (q_mt1 (List.mem_of_getElem? (i := 2) rfl)) rfl, q_TB_in (q_mt3 (List.mem_of_getElem? (i := 35) rfl)) rfl, ⟨by decide, by decide, by decide +kernel⟩, by decide⟩
theorem keRX9_16 : q_cpok q_mt "BlockedCars$Yard" (65, 2, 250, 1) := ⟨(yX9_kindOf, cX9_kindOf, 1, (some .int)), rfl, q_TB_in (q_mt3 (List.mem_of_getElem? (i := 40) rfl)) rfl, q_TB_in (q_mt3 (List.mem_of_getElem? (i := 41) rfl)) rfl, q_TB_in (q_mt1 (List.mem_of_getElem? (i := 3) rfl)) rfl, q_TB_in (q_mt3 (List.mem_of_getElem? (i := 42) rfl)) rfl, ⟨by decide, by decide, by decide +kernel⟩, by decide⟩
theorem keRX9_17 : q_cpok q_mt "BlockedCars$Yard" (69, 0, 4, 4) := fun C T N h => by
    have h : some (RX4, TX4, 7) = some (C, T, N) := h
    cases h
    exact q_TB_in (q_mt1 (List.mem_of_getElem? (i := 47) rfl)) rfl
theorem keRX9_18 : q_cpok q_mt "BlockedCars$Yard" (72, 1, 191, 2) := ⟨(yX4_fail, cX4_fail, 3, none), rfl, q_TB_in (q_mt3 (List.mem_of_getElem? (i := 99) rfl)) rfl, q_TB_in (q_mt3 (List.mem_of_getElem? (i := 100) rfl)) rfl, q_TB_in (q_mt3 (List.mem_of_getElem? (i := 101) rfl)) rfl, q_TB_in (q_mt1 (List.mem_of_getElem? (i := 2) rfl)) rfl, q_TB_in (q_mt3 (List.mem_of_getElem? (i := 102) rfl)) rfl, ⟨by decide, by decide, by decide +kernel⟩, by decide⟩
theorem keRX9_19 : q_cpok q_mt "BlockedCars$Yard" (76, 1, 251, 1) := ⟨(yX9_readLane, cX9_readLane, 3, none), rfl, q_TB_in (q_mt3 (List.mem_of_getElem? (i := 103) rfl)) rfl, q_TB_in (q_mt3 (List.mem_of_getElem? (i := 105) rfl)) rfl, q_TB_in (q_pv1 (i := 5) rfl) rfl, q_TB_in (q_mt1 (List.mem_of_getElem? (i := 3) rfl)) rfl, q_TB_in (q_mt3 (List.mem_of_getElem? (i := 106) rfl)) rfl, ⟨by decide, by decide, by decide +kernel⟩, by decide⟩
theorem keRX9_20 : q_cpok q_mt "BlockedCars$Yard" (80, 1, 252, 1) := ⟨(yX9_readCar, cX9_readCar, 5, none), rfl, q_TB_in (q_mt3 (List.mem_of_getElem? (i := 120) rfl)) rfl, q_TB_in (q_mt3 (List.mem_of_getElem? (i := 122) rfl)) rfl, q_TB_in (q_pv1 (i := 6) rfl) rfl, q_TB_in (q_mt1 (List.mem_of_getElem? (i := 3) rfl)) rfl, q_TB_in (q_mt3 (List.mem_of_getElem? (i := 123) rfl)) rfl, ⟨by decide, by decide, by decide +kernel⟩, by decide⟩
theorem keRX9_21 : q_cpok q_mt "BlockedCars$Yard" (83, 1, 253, 1) := ⟨(yX9_readKey, cX9_readKey, 4, none), rfl, q_TB_in (q_mt3 (List.mem_of_getElem? (i := 124) rfl)) rfl, q_TB_in (q_mt3 (List.mem_of_getElem? (i := 126) rfl)) rfl, q_TB_in (q_pv1 (i := 7) rfl) rfl, q_TB_in (q_mt1 (List.mem_of_getElem? (i := 3) rfl)) rfl, q_TB_in (q_mt3 (List.mem_of_getElem? (i := 127) rfl)) rfl, ⟨by decide, by decide, by decide +kernel⟩, by decide⟩
theorem keRX9_22 : q_cpok q_mt "BlockedCars$Yard" (86, 1, 199, 2) := ⟨(yX4_readNumber, cX4_readNumber, 5, (some .int)), rfl, q_TB_in (q_mt3 (List.mem_of_getElem? (i := 107) rfl)) rfl, q_TB_in (q_mt3 (List.mem_of_getElem? (i := 108) rfl)) rfl, q_TB_in (q_mt3 (List.mem_of_getElem? (i := 109) rfl)) rfl, q_TB_in (q_mt1 (List.mem_of_getElem? (i := 2) rfl)) rfl, q_TB_in (q_mt3 (List.mem_of_getElem? (i := 110) rfl)) rfl, ⟨by decide, by decide, by decide +kernel⟩, by decide⟩
theorem keRX9_23 : q_cpok q_mt "BlockedCars$Yard" (90, 1, 198, 1) := ⟨(yX4_readSign, cX4_readSign, 2, none), rfl, q_TB_in (q_mt3 (List.mem_of_getElem? (i := 128) rfl)) rfl, q_TB_in (q_mt3 (List.mem_of_getElem? (i := 129) rfl)) rfl, q_TB_in (q_mt3 (List.mem_of_getElem? (i := 130) rfl)) rfl, q_TB_in (q_mt1 (List.mem_of_getElem? (i := 2) rfl)) rfl, q_TB_in (q_mt3 (List.mem_of_getElem? (i := 131) rfl)) rfl, ⟨by decide, by decide, by decide +kernel⟩, by decide⟩
theorem keRX9_24 : q_cpok q_mt "BlockedCars$Yard" (96, 1, 201, 1) := ⟨(yX4_isWord, cX4_isWord, 3, (some .boolean)), rfl, q_TB_in (q_mt3 (List.mem_of_getElem? (i := 44) rfl)) rfl, q_TB_in (q_mt3 (List.mem_of_getElem? (i := 45) rfl)) rfl, q_TB_in (q_mt3 (List.mem_of_getElem? (i := 46) rfl)) rfl, q_TB_in (q_mt1 (List.mem_of_getElem? (i := 2) rfl)) rfl, q_TB_in (q_mt3 (List.mem_of_getElem? (i := 47) rfl)) rfl, ⟨by decide, by decide, by decide +kernel⟩, by decide⟩
theorem keRX9_25 : q_cpok q_mt "BlockedCars$Yard" (105, 1, 255, 2) := ⟨(yX9_isSooner, cX9_isSooner, 3, (some .boolean)), rfl, q_TB_in (q_mt3 (List.mem_of_getElem? (i := 136) rfl)) rfl, q_TB_in (q_mt3 (List.mem_of_getElem? (i := 138) rfl)) rfl, q_TB_in (q_pv1 (i := 9) rfl) rfl, q_TB_in (q_mt1 (List.mem_of_getElem? (i := 3) rfl)) rfl, q_TB_in (q_mt3 (List.mem_of_getElem? (i := 139) rfl)) rfl, ⟨by decide, by decide, by decide +kernel⟩, by decide⟩
theorem keRX9_26 : q_cpok q_mt "BlockedCars$Yard" (109, 2, 274, 1) := ⟨(yJ6_bitCount_0f7a4, cJ6_bitCount_0f7a4, 1, (some .int)), rfl, q_TB_in (q_mt3 (List.mem_of_getElem? (i := 140) rfl)) rfl, q_TB_in (q_mt3 (List.mem_of_getElem? (i := 141) rfl)) rfl, q_TB_in (q_mt1 (List.mem_of_getElem? (i := 21) rfl)) rfl, q_TB_in (q_mt3 (List.mem_of_getElem? (i := 142) rfl)) rfl, ⟨by decide, by decide, by decide +kernel⟩, by decide⟩
theorem keRX9_27 : q_cpok q_mt "BlockedCars$Yard" (115, 3, 0, 0) := q_TB_in (q_mt3 (List.mem_of_getElem? (i := 146) rfl)) rfl
theorem keRX9_28 : q_cpok q_mt "BlockedCars$Yard" (120, 1, 256, 1) := ⟨(yX9_placesOf, cX9_placesOf, 2, (some .int)), rfl, q_TB_in (q_mt4 (List.mem_of_getElem? (i := 57) rfl)) rfl, q_TB_in (q_mt4 (List.mem_of_getElem? (i := 58) rfl)) rfl, q_TB_in (q_mt4 (List.mem_of_getElem? (i := 59) rfl)) rfl, q_TB_in (q_mt1 (List.mem_of_getElem? (i := 3) rfl)) rfl, q_TB_in (q_mt4 (List.mem_of_getElem? (i := 60) rfl)) rfl, ⟨by decide, by decide, by decide +kernel⟩, by decide⟩
theorem keRX9_29 : q_cpok q_mt "BlockedCars$Yard" (123, 2, 222, 2) := ⟨(yX7_rowOf, cX7_rowOf, 3, (some .int)), rfl, q_TB_in (q_mt4 (List.mem_of_getElem? (i := 61) rfl)) rfl, q_TB_in (q_mt4 (List.mem_of_getElem? (i := 62) rfl)) rfl, q_TB_in (q_mt1 (List.mem_of_getElem? (i := 23) rfl)) rfl, q_TB_in (q_mt4 (List.mem_of_getElem? (i := 63) rfl)) rfl, ⟨by decide, by decide, by decide +kernel⟩, by decide⟩
theorem keRX9_30 : q_cpok q_mt "BlockedCars$Yard" (129, 1, 257, 1) := ⟨(yX9_lengthOf, cX9_lengthOf, 2, (some .int)), rfl, q_TB_in (q_mt4 (List.mem_of_getElem? (i := 65) rfl)) rfl, q_TB_in (q_mt4 (List.mem_of_getElem? (i := 66) rfl)) rfl, q_TB_in (q_mt4 (List.mem_of_getElem? (i := 67) rfl)) rfl, q_TB_in (q_mt1 (List.mem_of_getElem? (i := 3) rfl)) rfl, q_TB_in (q_mt4 (List.mem_of_getElem? (i := 68) rfl)) rfl, ⟨by decide, by decide, by decide +kernel⟩, by decide⟩
theorem keRX9_31 : q_cpok q_mt "BlockedCars$Yard" (132, 2, 230, 2) := ⟨(yX7_laneOf, cX7_laneOf, 4, (some .int)), rfl, q_TB_in (q_mt4 (List.mem_of_getElem? (i := 144) rfl)) rfl, q_TB_in (q_mt4 (List.mem_of_getElem? (i := 48) rfl)) rfl, q_TB_in (q_mt1 (List.mem_of_getElem? (i := 23) rfl)) rfl, q_TB_in (q_mt4 (List.mem_of_getElem? (i := 49) rfl)) rfl, ⟨by decide, by decide, by decide +kernel⟩, by decide⟩
theorem keRX9_32 : q_cpok q_mt "BlockedCars$Yard" (135, 1, 262, 3) := ⟨(yX9_carOn, cX9_carOn, 10, (some .int)), rfl, q_TB_in (q_mt5 (List.mem_of_getElem? (i := 22) rfl)) rfl, q_TB_in (q_mt5 (List.mem_of_getElem? (i := 23) rfl)) rfl, q_TB_in (q_mt5 (List.mem_of_getElem? (i := 24) rfl)) rfl, q_TB_in (q_mt1 (List.mem_of_getElem? (i := 3) rfl)) rfl, q_TB_in (q_mt5 (List.mem_of_getElem? (i := 25) rfl)) rfl, ⟨by decide, by decide, by decide +kernel⟩, by decide⟩
theorem keRX9_33 : q_cpok q_mt "BlockedCars$Yard" (139, 1, 265, 2) := ⟨(yX9_blockings, cX9_blockings, 8, (some .int)), rfl, q_TB_in (q_mt4 (List.mem_of_getElem? (i := 199) rfl)) rfl, q_TB_in (q_mt4 (List.mem_of_getElem? (i := 200) rfl)) rfl, q_TB_in (q_mt4 (List.mem_of_getElem? (i := 201) rfl)) rfl, q_TB_in (q_mt1 (List.mem_of_getElem? (i := 3) rfl)) rfl, q_TB_in (q_mt4 (List.mem_of_getElem? (i := 202) rfl)) rfl, ⟨by decide, by decide, by decide +kernel⟩, by decide⟩
theorem keRX9_34 : q_cpok q_mt "BlockedCars$Yard" (142, 2, 228, 1) := ⟨(yX7_carsIn, cX7_carsIn, 5, (some .int)), rfl, q_TB_in (q_mt5 (List.mem_of_getElem? (i := 114) rfl)) rfl, q_TB_in (q_mt4 (List.mem_of_getElem? (i := 97) rfl)) rfl, q_TB_in (q_mt1 (List.mem_of_getElem? (i := 23) rfl)) rfl, q_TB_in (q_mt4 (List.mem_of_getElem? (i := 98) rfl)) rfl, ⟨by decide, by decide, by decide +kernel⟩, by decide⟩
theorem keRX9_35 : q_cpok q_mt "BlockedCars$Yard" (146, 2, 224, 2) := ⟨(yX7_frontOf, cX7_frontOf, 3, (some .int)), rfl, q_TB_in (q_mt5 (List.mem_of_getElem? (i := 80) rfl)) rfl, q_TB_in (q_mt4 (List.mem_of_getElem? (i := 84) rfl)) rfl, q_TB_in (q_mt1 (List.mem_of_getElem? (i := 23) rfl)) rfl, q_TB_in (q_mt4 (List.mem_of_getElem? (i := 85) rfl)) rfl, ⟨by decide, by decide, by decide +kernel⟩, by decide⟩
theorem keRX9_36 : q_cpok q_mt "BlockedCars$Yard" (149, 2, 226, 2) := ⟨(yX7_driveOut, cX7_driveOut, 3, (some .long)), rfl, q_TB_in (q_mt5 (List.mem_of_getElem? (i := 81) rfl)) rfl, q_TB_in (q_mt4 (List.mem_of_getElem? (i := 135) rfl)) rfl, q_TB_in (q_mt1 (List.mem_of_getElem? (i := 23) rfl)) rfl, q_TB_in (q_mt4 (List.mem_of_getElem? (i := 136) rfl)) rfl, ⟨by decide, by decide, by decide +kernel⟩, by decide⟩
theorem keRX9_37 : q_cpok q_mt "BlockedCars$Yard" (153, 1, 269, 1) := ⟨(yX9_widestLane, cX9_widestLane, 5, (some .int)), rfl, q_TB_in (q_mt4 (List.mem_of_getElem? (i := 145) rfl)) rfl, q_TB_in (q_mt4 (List.mem_of_getElem? (i := 147) rfl)) rfl, q_TB_in (q_pv2 (i := 6) rfl) rfl, q_TB_in (q_mt1 (List.mem_of_getElem? (i := 3) rfl)) rfl, q_TB_in (q_mt4 (List.mem_of_getElem? (i := 148) rfl)) rfl, ⟨by decide, by decide, by decide +kernel⟩, by decide⟩
theorem keRX9_38 : q_cpok q_mt "BlockedCars$Yard" (156, 1, 261, 2) := ⟨(yX9_roomOf, cX9_roomOf, 6, (some .int)), rfl, q_TB_in (q_mt4 (List.mem_of_getElem? (i := 149) rfl)) rfl, q_TB_in (q_mt4 (List.mem_of_getElem? (i := 54) rfl)) rfl, q_TB_in (q_mt4 (List.mem_of_getElem? (i := 55) rfl)) rfl, q_TB_in (q_mt1 (List.mem_of_getElem? (i := 3) rfl)) rfl, q_TB_in (q_mt4 (List.mem_of_getElem? (i := 56) rfl)) rfl, ⟨by decide, by decide, by decide +kernel⟩, by decide⟩
theorem keRX9_39 : q_cpok q_mt "BlockedCars$Yard" (159, 2, 227, 3) := ⟨(yX7_driveIn, cX7_driveIn, 4, (some .long)), rfl, q_TB_in (q_mt4 (List.mem_of_getElem? (i := 150) rfl)) rfl, q_TB_in (q_mt4 (List.mem_of_getElem? (i := 71) rfl)) rfl, q_TB_in (q_mt1 (List.mem_of_getElem? (i := 23) rfl)) rfl, q_TB_in (q_mt4 (List.mem_of_getElem? (i := 72) rfl)) rfl, ⟨by decide, by decide, by decide +kernel⟩, by decide⟩
theorem keRX9_40 : q_cpok q_mt "BlockedCars$Yard" (163, 2, 231, 2) := ⟨(yX7_aheadOf, cX7_aheadOf, 5, (some .int)), rfl, q_TB_in (q_mt5 (List.mem_of_getElem? (i := 156) rfl)) rfl, q_TB_in (q_mt5 (List.mem_of_getElem? (i := 62) rfl)) rfl, q_TB_in (q_mt1 (List.mem_of_getElem? (i := 23) rfl)) rfl, q_TB_in (q_mt5 (List.mem_of_getElem? (i := 63) rfl)) rfl, ⟨by decide, by decide, by decide +kernel⟩, by decide⟩
theorem keRX9_41 : q_cpok q_mt "BlockedCars$Yard" (166, 1, 260, 1) := ⟨(yX9_keysOf, cX9_keysOf, 2, (some .int)), rfl, q_TB_in (q_mt5 (List.mem_of_getElem? (i := 157) rfl)) rfl, q_TB_in (q_mt4 (List.mem_of_getElem? (i := 87) rfl)) rfl, q_TB_in (q_mt4 (List.mem_of_getElem? (i := 88) rfl)) rfl, q_TB_in (q_mt1 (List.mem_of_getElem? (i := 3) rfl)) rfl, q_TB_in (q_mt4 (List.mem_of_getElem? (i := 89) rfl)) rfl, ⟨by decide, by decide, by decide +kernel⟩, by decide⟩
theorem keRX9_42 : q_cpok q_mt "BlockedCars$Yard" (169, 1, 271, 3) := ⟨(yX9_firstOtherLane, cX9_firstOtherLane, 6, (some .int)), rfl, q_TB_in (q_mt5 (List.mem_of_getElem? (i := 158) rfl)) rfl, q_TB_in (q_mt5 (List.mem_of_getElem? (i := 160) rfl)) rfl, q_TB_in (q_pv3 (i := 3) rfl) rfl, q_TB_in (q_mt1 (List.mem_of_getElem? (i := 3) rfl)) rfl, q_TB_in (q_mt5 (List.mem_of_getElem? (i := 161) rfl)) rfl, ⟨by decide, by decide, by decide +kernel⟩, by decide⟩
theorem keRX9_43 : q_cpok q_mt "BlockedCars$Yard" (172, 1, 273, 2) := ⟨(yX9_eveningBy, cX9_eveningBy, 9, (some .int)), rfl, q_TB_in (q_mt5 (List.mem_of_getElem? (i := 177) rfl)) rfl, q_TB_in (q_mt5 (List.mem_of_getElem? (i := 179) rfl)) rfl, q_TB_in (q_pv3 (i := 5) rfl) rfl, q_TB_in (q_mt1 (List.mem_of_getElem? (i := 3) rfl)) rfl, q_TB_in (q_mt5 (List.mem_of_getElem? (i := 180) rfl)) rfl, ⟨by decide, by decide, by decide +kernel⟩, by decide⟩
theorem keRX9_44 : q_cpok q_mt "BlockedCars$Yard" (175, 1, 264, 1) := ⟨(yX9_pairsOf, cX9_pairsOf, 3, (some .int)), rfl, q_TB_in (q_mt5 (List.mem_of_getElem? (i := 181) rfl)) rfl, q_TB_in (q_mt4 (List.mem_of_getElem? (i := 196) rfl)) rfl, q_TB_in (q_mt4 (List.mem_of_getElem? (i := 197) rfl)) rfl, q_TB_in (q_mt1 (List.mem_of_getElem? (i := 3) rfl)) rfl, q_TB_in (q_mt4 (List.mem_of_getElem? (i := 198) rfl)) rfl, ⟨by decide, by decide, by decide +kernel⟩, by decide⟩
theorem koRX9 : q_kok q_mt "BlockedCars$Yard" kpRX9 := ⟨List.forall_mem_cons.mpr ⟨keRX9_0, List.forall_mem_cons.mpr ⟨keRX9_1, List.forall_mem_cons.mpr ⟨keRX9_2, List.forall_mem_cons.mpr ⟨keRX9_3, List.forall_mem_cons.mpr ⟨keRX9_4, List.forall_mem_cons.mpr ⟨keRX9_5, List.forall_mem_cons.mpr ⟨keRX9_6, List.forall_mem_cons.mpr ⟨keRX9_7, List.forall_mem_cons.mpr ⟨keRX9_8, List.forall_mem_cons.mpr ⟨keRX9_9, List.forall_mem_cons.mpr ⟨keRX9_10, List.forall_mem_cons.mpr ⟨keRX9_11, List.forall_mem_cons.mpr ⟨keRX9_12, List.forall_mem_cons.mpr ⟨keRX9_13, List.forall_mem_cons.mpr ⟨keRX9_14, List.forall_mem_cons.mpr ⟨keRX9_15, List.forall_mem_cons.mpr ⟨keRX9_16, List.forall_mem_cons.mpr ⟨keRX9_17, List.forall_mem_cons.mpr ⟨keRX9_18, List.forall_mem_cons.mpr ⟨keRX9_19, List.forall_mem_cons.mpr ⟨keRX9_20, List.forall_mem_cons.mpr ⟨keRX9_21, List.forall_mem_cons.mpr ⟨keRX9_22, List.forall_mem_cons.mpr ⟨keRX9_23, List.forall_mem_cons.mpr ⟨keRX9_24, List.forall_mem_cons.mpr ⟨keRX9_25, List.forall_mem_cons.mpr ⟨keRX9_26, List.forall_mem_cons.mpr ⟨keRX9_27, List.forall_mem_cons.mpr ⟨keRX9_28, List.forall_mem_cons.mpr ⟨keRX9_29, List.forall_mem_cons.mpr ⟨keRX9_30, List.forall_mem_cons.mpr ⟨keRX9_31, List.forall_mem_cons.mpr ⟨keRX9_32, List.forall_mem_cons.mpr ⟨keRX9_33, List.forall_mem_cons.mpr ⟨keRX9_34, List.forall_mem_cons.mpr ⟨keRX9_35, List.forall_mem_cons.mpr ⟨keRX9_36, List.forall_mem_cons.mpr ⟨keRX9_37, List.forall_mem_cons.mpr ⟨keRX9_38, List.forall_mem_cons.mpr ⟨keRX9_39, List.forall_mem_cons.mpr ⟨keRX9_40, List.forall_mem_cons.mpr ⟨keRX9_41, List.forall_mem_cons.mpr ⟨keRX9_42, List.forall_mem_cons.mpr ⟨keRX9_43, List.forall_mem_cons.mpr ⟨keRX9_44, (fun _ h => nomatch h)⟩⟩⟩⟩⟩⟩⟩⟩⟩⟩⟩⟩⟩⟩⟩⟩⟩⟩⟩⟩⟩⟩⟩⟩⟩⟩⟩⟩⟩⟩⟩⟩⟩⟩⟩⟩⟩⟩⟩⟩⟩⟩⟩⟩⟩, (fun _ h => nomatch h), (fun _ h => nomatch h), List.forall_mem_cons.mpr ⟨List.mem_of_getElem? (i := 3) rfl, List.forall_mem_cons.mpr ⟨List.mem_of_getElem? (i := 4) rfl, List.forall_mem_cons.mpr ⟨List.mem_of_getElem? (i := 5) rfl, List.forall_mem_cons.mpr ⟨List.mem_of_getElem? (i := 6) rfl, (fun _ h => nomatch h)⟩⟩⟩⟩⟩
def kpRJ6 : qK := ([], [(265, 1431655765), (266, 858993459), (267, 252645135)], [], [])
theorem koRJ6 : q_kok q_mt "java/lang/Integer" kpRJ6 := ⟨(fun _ h => nomatch h), List.forall_mem_cons.mpr ⟨q_TB_in (q_mt3 (List.mem_of_getElem? (i := 143) rfl)) rfl, List.forall_mem_cons.mpr ⟨q_TB_in (q_mt3 (List.mem_of_getElem? (i := 144) rfl)) rfl, List.forall_mem_cons.mpr ⟨q_TB_in (q_mt3 (List.mem_of_getElem? (i := 145) rfl)) rfl, (fun _ h => nomatch h)⟩⟩⟩, (fun _ h => nomatch h), (fun _ h => nomatch h)⟩
def kpRJ9 : qK := ([], [], [], [])
theorem koRJ9 : q_kok q_mt "java/lang/Math" kpRJ9 := ⟨(fun _ h => nomatch h), (fun _ h => nomatch h), (fun _ h => nomatch h), (fun _ h => nomatch h)⟩
def kpRJ0 : qK := ([(9, 6, 0, 0), (15, 6, 1, 0), (38, 6, 2, 0), (335, 1, 279, 0), (492, 1, 280, 0), (495, 2, 282, 2), (1053, 6, 3, 0), (1059, 2, 288, 3)], [], [], [])
theorem keRJ0_0 : q_cpok q_mt "java/lang/String" (9, 6, 0, 0) := q_TB_in (q_mt8 (List.mem_of_getElem? (i := 218) rfl)) rfl
theorem keRJ0_1 : q_cpok q_mt "java/lang/String" (15, 6, 1, 0) := q_TB_in (q_mt8 (List.mem_of_getElem? (i := 219) rfl)) rfl
theorem keRJ0_2 : q_cpok q_mt "java/lang/String" (38, 6, 2, 0) := q_TB_in (q_mt3 (List.mem_of_getElem? (i := 56) rfl)) rfl
theorem keRJ0_3 : q_cpok q_mt "java/lang/String" (335, 1, 279, 0) := ⟨(yJ0_coder_7d493, cJ0_coder_7d493, 1, (some .byte)), rfl, q_TB_in (q_mt3 (List.mem_of_getElem? (i := 52) rfl)) rfl, q_TB_in (q_mt3 (List.mem_of_getElem? (i := 53) rfl)) rfl, q_TB_in (q_mt3 (List.mem_of_getElem? (i := 54) rfl)) rfl, q_TB_in (q_mt1 (List.mem_of_getElem? (i := 17) rfl)) rfl, q_TB_in (q_mt3 (List.mem_of_getElem? (i := 55) rfl)) rfl, ⟨by decide, by decide, by decide +kernel⟩, by decide⟩
theorem keRJ0_4 : q_cpok q_mt "java/lang/String" (492, 1, 280, 0) := ⟨(yJ0_isLatin1_aae02, cJ0_isLatin1_aae02, 1, (some .boolean)), rfl, q_TB_in (q_mt3 (List.mem_of_getElem? (i := 62) rfl)) rfl, q_TB_in (q_mt3 (List.mem_of_getElem? (i := 63) rfl)) rfl, q_TB_in (q_mt3 (List.mem_of_getElem? (i := 64) rfl)) rfl, q_TB_in (q_mt1 (List.mem_of_getElem? (i := 17) rfl)) rfl, q_TB_in (q_mt3 (List.mem_of_getElem? (i := 65) rfl)) rfl, ⟨by decide, by decide, by decide +kernel⟩, by decide⟩
theorem keRJ0_5 : q_cpok q_mt "java/lang/String" (495, 2, 282, 2) := ⟨(yJ1_charAt_3b067, cJ1_charAt_3b067, 2, (some .char)), rfl, q_TB_in (q_mt3 (List.mem_of_getElem? (i := 66) rfl)) rfl, q_TB_in (q_mt3 (List.mem_of_getElem? (i := 67) rfl)) rfl, q_TB_in (q_mt1 (List.mem_of_getElem? (i := 18) rfl)) rfl, q_TB_in (q_mt3 (List.mem_of_getElem? (i := 68) rfl)) rfl, ⟨by decide, by decide, by decide +kernel⟩, by decide⟩
theorem keRJ0_6 : q_cpok q_mt "java/lang/String" (1053, 6, 3, 0) := q_TB_in (q_mt3 (List.mem_of_getElem? (i := 72) rfl)) rfl
theorem keRJ0_7 : q_cpok q_mt "java/lang/String" (1059, 2, 288, 3) := ⟨(yJ3_checkIndex_8e157, cJ3_checkIndex_8e157, 3, (some .int)), rfl, q_TB_in (q_mt3 (List.mem_of_getElem? (i := 74) rfl)) rfl, q_TB_in (q_mt3 (List.mem_of_getElem? (i := 75) rfl)) rfl, q_TB_in (q_mt1 (List.mem_of_getElem? (i := 19) rfl)) rfl, q_TB_in (q_mt3 (List.mem_of_getElem? (i := 76) rfl)) rfl, ⟨by decide, by decide, by decide +kernel⟩, by decide⟩
theorem koRJ0 : q_kok q_mt "java/lang/String" kpRJ0 := ⟨List.forall_mem_cons.mpr ⟨keRJ0_0, List.forall_mem_cons.mpr ⟨keRJ0_1, List.forall_mem_cons.mpr ⟨keRJ0_2, List.forall_mem_cons.mpr ⟨keRJ0_3, List.forall_mem_cons.mpr ⟨keRJ0_4, List.forall_mem_cons.mpr ⟨keRJ0_5, List.forall_mem_cons.mpr ⟨keRJ0_6, List.forall_mem_cons.mpr ⟨keRJ0_7, (fun _ h => nomatch h)⟩⟩⟩⟩⟩⟩⟩⟩, (fun _ h => nomatch h), (fun _ h => nomatch h), (fun _ h => nomatch h)⟩
def kpRJ1 : qK := ([(9, 2, 278, 2)], [], [], [])
theorem keRJ1_0 : q_cpok q_mt "java/lang/StringLatin1" (9, 2, 278, 2) := ⟨(yJ0_checkIndex_df160, cJ0_checkIndex_df160, 2, none), rfl, q_TB_in (q_mt3 (List.mem_of_getElem? (i := 69) rfl)) rfl, q_TB_in (q_mt3 (List.mem_of_getElem? (i := 70) rfl)) rfl, q_TB_in (q_mt1 (List.mem_of_getElem? (i := 17) rfl)) rfl, q_TB_in (q_mt3 (List.mem_of_getElem? (i := 71) rfl)) rfl, ⟨by decide, by decide, by decide +kernel⟩, by decide⟩
theorem koRJ1 : q_kok q_mt "java/lang/StringLatin1" kpRJ1 := ⟨List.forall_mem_cons.mpr ⟨keRJ1_0, (fun _ h => nomatch h)⟩, (fun _ h => nomatch h), (fun _ h => nomatch h), (fun _ h => nomatch h)⟩
def kpRJ2 : qK := ([], [], [], [])
theorem koRJ2 : q_kok q_mt "java/lang/StringUTF16" kpRJ2 := ⟨(fun _ h => nomatch h), (fun _ h => nomatch h), (fun _ h => nomatch h), (fun _ h => nomatch h)⟩
def kpRJ7 : qK := ([], [], [], [])
theorem koRJ7 : q_kok q_mt "java/util/Arrays" kpRJ7 := ⟨(fun _ h => nomatch h), (fun _ h => nomatch h), (fun _ h => nomatch h), (fun _ h => nomatch h)⟩
def kpRJ3 : qK := ([], [], [], [])
theorem koRJ3 : q_kok q_mt "jdk/internal/util/Preconditions" kpRJ3 := ⟨(fun _ h => nomatch h), (fun _ h => nomatch h), (fun _ h => nomatch h), (fun _ h => nomatch h)⟩
