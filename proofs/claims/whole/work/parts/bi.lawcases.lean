/-! The law's cases -/
theorem spI_c {a : AS} {c : Prop} {r : SPR} (hr : ∀ k, r.1 ≠ .inl k) : ∀ k, (spI a c r).1 = .inl k → k = 1 := by
  intro k h
  unfold spI at h
  split at h
  · exact absurd h (hr k)
  · cases h; rfl
theorem spL_c {a : AS} {x : Int32} {c : Prop} {r : SPR} (hr : ∀ k, r.1 ≠ .inl k) : ∀ k, (spL a x c r).1 = .inl k → k = 1 ∨ k = 2 := by
  intro k h
  unfold spL at h
  split at h
  · split at h
    · exact absurd h (hr k)
    · cases h; exact Or.inr rfl
  · cases h; exact Or.inl rfl
theorem spK_c {a : AS} {x : Int32} {c : Prop} {r : SPR} (hr : ∀ k, r.1 ≠ .inl k) : ∀ k, (spK a x c r).1 = .inl k → k = 1 ∨ k = 2 := by
  intro k h
  unfold spK at h
  split at h
  · split at h
    · exact absurd h (hr k)
    · cases h; exact Or.inr rfl
  · cases h; exact Or.inl rfl
theorem spL_t {a : AS} {x : Int32} {r : SPR} (hr : ∀ k, r.1 ≠ .inl k) : ∀ k, (spL a x True r).1 = .inl k → k = 1 := by
  intro k h
  unfold spL at h
  split at h
  · split at h
    · exact absurd h (hr k)
    · rename_i h9; exact absurd trivial h9
  · cases h; rfl
theorem spK_t {a : AS} {x : Int32} {r : SPR} (hr : ∀ k, r.1 ≠ .inl k) : ∀ k, (spK a x True r).1 = .inl k → k = 1 := by
  intro k h
  unfold spK at h
  split at h
  · split at h
    · exact absurd h (hr k)
    · rename_i h9; exact absurd trivial h9
  · cases h; rfl
theorem sp_told_c {a : AS} {x : Int32} : ∀ k, (sp_told a x).1 = .inl k → k = 1 := by
  intro k h
  unfold sp_told at h
  split at h
  · cases h
  · cases h; rfl
theorem spC_2 {r : Nat ⊕ Int32} (h : ∀ k, r = .inl k → k = 1 ∨ k = 2) : spC r ≤ 2 ∧ ∀ k, r = .inl k → 0 < k := by
  refine ⟨?_, fun k hk => by rcases h k hk with e | e <;> omega⟩
  cases r with
  | inl k => rcases h k rfl with e | e <;> (show k ≤ 2; omega)
  | inr v => exact Nat.zero_le _
theorem spC_1 {r : Nat ⊕ Int32} (h : ∀ k, r = .inl k → k = 1) : spC r ≤ 2 ∧ ∀ k, r = .inl k → 0 < k := spC_2 (fun k hk => Or.inl (h k hk))
theorem sp_inr {r : Nat ⊕ Int32} (h : ∀ k, r ≠ .inl k) : r = .inr (spV r) := by
  cases r with
  | inl k => exact absurd rfl (h k)
  | inr v => rfl
theorem l_ini : Cond.initialized "BlockedCarsLaw" ∈ q_TB := q_TB_in (q_mt1 (List.mem_of_getElem? (i := 0) rfl)) rfl
theorem l_cpT : q_cpok q_mt "BlockedCarsLaw" (113, 1, 44, 0) := ⟨(yX11_thrown, cX11_thrown, 1, (some .int)), rfl, q_TB_in (q_mt7 (List.mem_of_getElem? (i := 18) rfl)) rfl, q_TB_in (q_mt7 (List.mem_of_getElem? (i := 19) rfl)) rfl, q_TB_in (q_mt7 (List.mem_of_getElem? (i := 20) rfl)) rfl, q_TB_in (q_mt1 (List.mem_of_getElem? (i := 11) rfl)) rfl, q_TB_in (q_mt7 (List.mem_of_getElem? (i := 21) rfl)) rfl, ⟨by decide, by decide, by decide +kernel⟩, by decide⟩
theorem l_cpM0 : q_cpok q_mt "BlockedCarsLaw" (106, 1, 50, 5) := ⟨(yX11_feed, cX11_feed, 8, (some .int)), rfl, q_TB_in (q_mt7 (List.mem_of_getElem? (i := 22) rfl)) rfl, q_TB_in (q_mt7 (List.mem_of_getElem? (i := 23) rfl)) rfl, q_TB_in (q_mt7 (List.mem_of_getElem? (i := 24) rfl)) rfl, q_TB_in (q_mt1 (List.mem_of_getElem? (i := 11) rfl)) rfl, q_TB_in (q_mt7 (List.mem_of_getElem? (i := 25) rfl)) rfl, ⟨by decide, by decide, by decide +kernel⟩, by decide⟩
theorem l_cpX0 : q_cpok q_mt "BlockedCarsLaw" (102, 1, 1, 5) := ⟨(yX10_feed, cX10_feed, 6, (some .int)), rfl, q_TB_in (q_mt2 (List.mem_of_getElem? (i := 121) rfl)) rfl, q_TB_in (q_mt2 (List.mem_of_getElem? (i := 122) rfl)) rfl, q_TB_in (q_mt2 (List.mem_of_getElem? (i := 123) rfl)) rfl, q_TB_in (q_mt1 (List.mem_of_getElem? (i := 1) rfl)) rfl, q_TB_in (q_mt2 (List.mem_of_getElem? (i := 124) rfl)) rfl, ⟨by decide, by decide, by decide +kernel⟩, by decide⟩
theorem l_cpM1 : q_cpok q_mt "BlockedCarsLaw" (112, 1, 68, 1) := ⟨(yX11_yard, cX11_yard, 2, (some .int)), rfl, q_TB_in (q_mt7 (List.mem_of_getElem? (i := 26) rfl)) rfl, q_TB_in (q_mt7 (List.mem_of_getElem? (i := 27) rfl)) rfl, q_TB_in (q_mt7 (List.mem_of_getElem? (i := 28) rfl)) rfl, q_TB_in (q_mt1 (List.mem_of_getElem? (i := 11) rfl)) rfl, q_TB_in (q_mt7 (List.mem_of_getElem? (i := 29) rfl)) rfl, ⟨by decide, by decide, by decide +kernel⟩, by decide⟩
theorem sp_yard1_c {a : AS} {n : Nat} : ∀ k, (sp_yard1 a n).1 ≠ .inl k := by
  intro k h
  unfold sp_yard1 at h
  (repeat' split at h) <;> cases h
theorem l_cpM2 : q_cpok q_mt "BlockedCarsLaw" (119, 1, 78, 1) := ⟨(yX11_law, cX11_law, 2, (some .int)), rfl, q_TB_in (q_mt7 (List.mem_of_getElem? (i := 95) rfl)) rfl, q_TB_in (q_mt7 (List.mem_of_getElem? (i := 96) rfl)) rfl, q_TB_in (q_mt7 (List.mem_of_getElem? (i := 97) rfl)) rfl, q_TB_in (q_mt1 (List.mem_of_getElem? (i := 11) rfl)) rfl, q_TB_in (q_mt7 (List.mem_of_getElem? (i := 98) rfl)) rfl, ⟨by decide, by decide, by decide +kernel⟩, by decide⟩
theorem sp_law1_c {a : AS} {n : Nat} : ∀ k, (sp_law1 a n).1 ≠ .inl k := by
  intro k h
  unfold sp_law1 at h
  (repeat' split at h) <;> cases h
theorem l_cpM3 : q_cpok q_mt "BlockedCarsLaw" (122, 1, 101, 1) := ⟨(yX11_work, cX11_work, 2, (some .int)), rfl, q_TB_in (q_mt7 (List.mem_of_getElem? (i := 142) rfl)) rfl, q_TB_in (q_mt7 (List.mem_of_getElem? (i := 143) rfl)) rfl, q_TB_in (q_mt7 (List.mem_of_getElem? (i := 144) rfl)) rfl, q_TB_in (q_mt1 (List.mem_of_getElem? (i := 11) rfl)) rfl, q_TB_in (q_mt7 (List.mem_of_getElem? (i := 145) rfl)) rfl, ⟨by decide, by decide, by decide +kernel⟩, by decide⟩
theorem sp_work1_c {a : AS} {n : Nat} : ∀ k, (sp_work1 a n).1 ≠ .inl k := by
  intro k h
  unfold sp_work1 at h
  (repeat' split at h) <;> cases h
theorem l_cpM4 : q_cpok q_mt "BlockedCarsLaw" (125, 1, 83, 1) := ⟨(yX11_spots, cX11_spots, 8, (some .int)), rfl, q_TB_in (q_mt7 (List.mem_of_getElem? (i := 131) rfl)) rfl, q_TB_in (q_mt7 (List.mem_of_getElem? (i := 132) rfl)) rfl, q_TB_in (q_mt7 (List.mem_of_getElem? (i := 133) rfl)) rfl, q_TB_in (q_mt1 (List.mem_of_getElem? (i := 11) rfl)) rfl, q_TB_in (q_mt7 (List.mem_of_getElem? (i := 134) rfl)) rfl, ⟨by decide, by decide, by decide +kernel⟩, by decide⟩
theorem sp_spots1_c {a : AS} {n : Nat} : ∀ k, (sp_spots1 a n).1 ≠ .inl k := by
  intro k h
  unfold sp_spots1 at h
  (repeat' split at h) <;> cases h
theorem l_cpM5 : q_cpok q_mt "BlockedCarsLaw" (129, 1, 84, 0) := ⟨(yX11_fault, cX11_fault, 1, (some .int)), rfl, q_TB_in (q_mt7 (List.mem_of_getElem? (i := 138) rfl)) rfl, q_TB_in (q_mt7 (List.mem_of_getElem? (i := 139) rfl)) rfl, q_TB_in (q_mt7 (List.mem_of_getElem? (i := 140) rfl)) rfl, q_TB_in (q_mt1 (List.mem_of_getElem? (i := 11) rfl)) rfl, q_TB_in (q_mt7 (List.mem_of_getElem? (i := 141) rfl)) rfl, ⟨by decide, by decide, by decide +kernel⟩, by decide⟩
theorem l_cpX5 : q_cpok q_mt "BlockedCarsLaw" (126, 1, 6, 0) := ⟨(yX10_fault, cX10_fault, 1, (some .int)), rfl, q_TB_in (q_mt2 (List.mem_of_getElem? (i := 129) rfl)) rfl, q_TB_in (q_mt2 (List.mem_of_getElem? (i := 130) rfl)) rfl, q_TB_in (q_mt2 (List.mem_of_getElem? (i := 131) rfl)) rfl, q_TB_in (q_mt1 (List.mem_of_getElem? (i := 1) rfl)) rfl, q_TB_in (q_mt2 (List.mem_of_getElem? (i := 132) rfl)) rfl, ⟨by decide, by decide, by decide +kernel⟩, by decide⟩
theorem l_cpM6 : q_cpok q_mt "BlockedCarsLaw" (133, 1, 102, 0) := ⟨(yX11_undo, cX11_undo, 1, (some .int)), rfl, q_TB_in (q_mt7 (List.mem_of_getElem? (i := 220) rfl)) rfl, q_TB_in (q_mt7 (List.mem_of_getElem? (i := 221) rfl)) rfl, q_TB_in (q_mt7 (List.mem_of_getElem? (i := 222) rfl)) rfl, q_TB_in (q_mt1 (List.mem_of_getElem? (i := 11) rfl)) rfl, q_TB_in (q_mt7 (List.mem_of_getElem? (i := 223) rfl)) rfl, ⟨by decide, by decide, by decide +kernel⟩, by decide⟩
theorem l_cpX6 : q_cpok q_mt "BlockedCarsLaw" (130, 1, 7, 0) := ⟨(yX10_undo, cX10_undo, 1, (some .int)), rfl, q_TB_in (q_mt2 (List.mem_of_getElem? (i := 133) rfl)) rfl, q_TB_in (q_mt2 (List.mem_of_getElem? (i := 134) rfl)) rfl, q_TB_in (q_mt2 (List.mem_of_getElem? (i := 135) rfl)) rfl, q_TB_in (q_mt1 (List.mem_of_getElem? (i := 1) rfl)) rfl, q_TB_in (q_mt2 (List.mem_of_getElem? (i := 136) rfl)) rfl, ⟨by decide, by decide, by decide +kernel⟩, by decide⟩
theorem l_cpM7 : q_cpok q_mt "BlockedCarsLaw" (136, 1, 103, 1) := ⟨(yX11_told, cX11_told, 4, (some .int)), rfl, q_TB_in (q_mt7 (List.mem_of_getElem? (i := 224) rfl)) rfl, q_TB_in (q_mt7 (List.mem_of_getElem? (i := 225) rfl)) rfl, q_TB_in (q_mt7 (List.mem_of_getElem? (i := 226) rfl)) rfl, q_TB_in (q_mt1 (List.mem_of_getElem? (i := 11) rfl)) rfl, q_TB_in (q_mt7 (List.mem_of_getElem? (i := 227) rfl)) rfl, ⟨by decide, by decide, by decide +kernel⟩, by decide⟩
theorem l_cpM8 : q_cpok q_mt "BlockedCarsLaw" (140, 1, 107, 2) := ⟨(yX11_lane, cX11_lane, 5, (some .int)), rfl, q_TB_in (q_mt7 (List.mem_of_getElem? (i := 236) rfl)) rfl, q_TB_in (q_mt7 (List.mem_of_getElem? (i := 237) rfl)) rfl, q_TB_in (q_mt7 (List.mem_of_getElem? (i := 238) rfl)) rfl, q_TB_in (q_mt1 (List.mem_of_getElem? (i := 11) rfl)) rfl, q_TB_in (q_mt7 (List.mem_of_getElem? (i := 239) rfl)) rfl, ⟨by decide, by decide, by decide +kernel⟩, by decide⟩
theorem l_cpM9 : q_cpok q_mt "BlockedCarsLaw" (143, 1, 109, 2) := ⟨(yX11_car, cX11_car, 3, (some .int)), rfl, q_TB_in (q_mt8 (List.mem_of_getElem? (i := 4) rfl)) rfl, q_TB_in (q_mt8 (List.mem_of_getElem? (i := 5) rfl)) rfl, q_TB_in (q_mt8 (List.mem_of_getElem? (i := 6) rfl)) rfl, q_TB_in (q_mt1 (List.mem_of_getElem? (i := 11) rfl)) rfl, q_TB_in (q_mt8 (List.mem_of_getElem? (i := 7) rfl)) rfl, ⟨by decide, by decide, by decide +kernel⟩, by decide⟩
theorem l_cpM10 : q_cpok q_mt "BlockedCarsLaw" (146, 1, 111, 2) := ⟨(yX11_on, cX11_on, 3, (some .int)), rfl, q_TB_in (q_mt8 (List.mem_of_getElem? (i := 20) rfl)) rfl, q_TB_in (q_mt8 (List.mem_of_getElem? (i := 21) rfl)) rfl, q_TB_in (q_mt8 (List.mem_of_getElem? (i := 22) rfl)) rfl, q_TB_in (q_mt1 (List.mem_of_getElem? (i := 11) rfl)) rfl, q_TB_in (q_mt8 (List.mem_of_getElem? (i := 23) rfl)) rfl, ⟨by decide, by decide, by decide +kernel⟩, by decide⟩
theorem l_cpM11 : q_cpok q_mt "BlockedCarsLaw" (149, 1, 112, 2) := ⟨(yX11_seconds, cX11_seconds, 3, (some .int)), rfl, q_TB_in (q_mt8 (List.mem_of_getElem? (i := 28) rfl)) rfl, q_TB_in (q_mt8 (List.mem_of_getElem? (i := 29) rfl)) rfl, q_TB_in (q_mt8 (List.mem_of_getElem? (i := 30) rfl)) rfl, q_TB_in (q_mt1 (List.mem_of_getElem? (i := 11) rfl)) rfl, q_TB_in (q_mt8 (List.mem_of_getElem? (i := 31) rfl)) rfl, ⟨by decide, by decide, by decide +kernel⟩, by decide⟩
theorem l_cpM12 : q_cpok q_mt "BlockedCarsLaw" (153, 1, 113, 8) := ⟨(yX11_would, cX11_would, 9, (some .int)), rfl, q_TB_in (q_mt8 (List.mem_of_getElem? (i := 32) rfl)) rfl, q_TB_in (q_mt8 (List.mem_of_getElem? (i := 33) rfl)) rfl, q_TB_in (q_mt8 (List.mem_of_getElem? (i := 34) rfl)) rfl, q_TB_in (q_mt1 (List.mem_of_getElem? (i := 11) rfl)) rfl, q_TB_in (q_mt8 (List.mem_of_getElem? (i := 35) rfl)) rfl, ⟨by decide, by decide, by decide +kernel⟩, by decide⟩
theorem l_cpM13 : q_cpok q_mt "BlockedCarsLaw" (156, 1, 115, 1) := ⟨(yX11_ahead, cX11_ahead, 2, (some .int)), rfl, q_TB_in (q_mt8 (List.mem_of_getElem? (i := 36) rfl)) rfl, q_TB_in (q_mt8 (List.mem_of_getElem? (i := 37) rfl)) rfl, q_TB_in (q_mt8 (List.mem_of_getElem? (i := 38) rfl)) rfl, q_TB_in (q_mt1 (List.mem_of_getElem? (i := 11) rfl)) rfl, q_TB_in (q_mt8 (List.mem_of_getElem? (i := 39) rfl)) rfl, ⟨by decide, by decide, by decide +kernel⟩, by decide⟩
theorem l_cpM14 : q_cpok q_mt "BlockedCarsLaw" (159, 1, 123, 2) := ⟨(yX11_frees, cX11_frees, 4, (some .int)), rfl, q_TB_in (q_mt8 (List.mem_of_getElem? (i := 44) rfl)) rfl, q_TB_in (q_mt8 (List.mem_of_getElem? (i := 45) rfl)) rfl, q_TB_in (q_mt8 (List.mem_of_getElem? (i := 46) rfl)) rfl, q_TB_in (q_mt1 (List.mem_of_getElem? (i := 11) rfl)) rfl, q_TB_in (q_mt8 (List.mem_of_getElem? (i := 47) rfl)) rfl, ⟨by decide, by decide, by decide +kernel⟩, by decide⟩
theorem l_cpM15 : q_cpok q_mt "BlockedCarsLaw" (162, 1, 124, 1) := ⟨(yX11_morning, cX11_morning, 3, (some .int)), rfl, q_TB_in (q_mt8 (List.mem_of_getElem? (i := 76) rfl)) rfl, q_TB_in (q_mt8 (List.mem_of_getElem? (i := 77) rfl)) rfl, q_TB_in (q_mt8 (List.mem_of_getElem? (i := 78) rfl)) rfl, q_TB_in (q_mt1 (List.mem_of_getElem? (i := 11) rfl)) rfl, q_TB_in (q_mt8 (List.mem_of_getElem? (i := 79) rfl)) rfl, ⟨by decide, by decide, by decide +kernel⟩, by decide⟩
theorem l_cpM16 : q_cpok q_mt "BlockedCarsLaw" (165, 1, 126, 1) := ⟨(yX11_corner, cX11_corner, 3, (some .int)), rfl, q_TB_in (q_mt8 (List.mem_of_getElem? (i := 80) rfl)) rfl, q_TB_in (q_mt8 (List.mem_of_getElem? (i := 81) rfl)) rfl, q_TB_in (q_mt8 (List.mem_of_getElem? (i := 82) rfl)) rfl, q_TB_in (q_mt1 (List.mem_of_getElem? (i := 11) rfl)) rfl, q_TB_in (q_mt8 (List.mem_of_getElem? (i := 83) rfl)) rfl, ⟨by decide, by decide, by decide +kernel⟩, by decide⟩
theorem l_cpM17 : q_cpok q_mt "BlockedCarsLaw" (168, 1, 128, 1) := ⟨(yX11_goes, cX11_goes, 5, (some .boolean)), rfl, q_TB_in (q_mt8 (List.mem_of_getElem? (i := 92) rfl)) rfl, q_TB_in (q_mt8 (List.mem_of_getElem? (i := 93) rfl)) rfl, q_TB_in (q_mt8 (List.mem_of_getElem? (i := 94) rfl)) rfl, q_TB_in (q_mt1 (List.mem_of_getElem? (i := 11) rfl)) rfl, q_TB_in (q_mt8 (List.mem_of_getElem? (i := 95) rfl)) rfl, ⟨by decide, by decide, by decide +kernel⟩, by decide⟩
theorem l_cpM18 : q_cpok q_mt "BlockedCarsLaw" (171, 1, 130, 2) := ⟨(yX11_evening, cX11_evening, 4, (some .int)), rfl, q_TB_in (q_mt8 (List.mem_of_getElem? (i := 96) rfl)) rfl, q_TB_in (q_mt8 (List.mem_of_getElem? (i := 97) rfl)) rfl, q_TB_in (q_mt8 (List.mem_of_getElem? (i := 98) rfl)) rfl, q_TB_in (q_mt1 (List.mem_of_getElem? (i := 11) rfl)) rfl, q_TB_in (q_mt8 (List.mem_of_getElem? (i := 99) rfl)) rfl, ⟨by decide, by decide, by decide +kernel⟩, by decide⟩
theorem l_cpM19 : q_cpok q_mt "BlockedCarsLaw" (175, 1, 131, 3) := ⟨(yX11_sure, cX11_sure, 9, (some .int)), rfl, q_TB_in (q_mt8 (List.mem_of_getElem? (i := 108) rfl)) rfl, q_TB_in (q_mt8 (List.mem_of_getElem? (i := 109) rfl)) rfl, q_TB_in (q_mt8 (List.mem_of_getElem? (i := 110) rfl)) rfl, q_TB_in (q_mt1 (List.mem_of_getElem? (i := 11) rfl)) rfl, q_TB_in (q_mt8 (List.mem_of_getElem? (i := 111) rfl)) rfl, ⟨by decide, by decide, by decide +kernel⟩, by decide⟩
theorem l_cpM20 : q_cpok q_mt "BlockedCarsLaw" (178, 1, 134, 1) := ⟨(yX11_leaks, cX11_leaks, 6, (some .int)), rfl, q_TB_in (q_mt8 (List.mem_of_getElem? (i := 112) rfl)) rfl, q_TB_in (q_mt8 (List.mem_of_getElem? (i := 113) rfl)) rfl, q_TB_in (q_mt8 (List.mem_of_getElem? (i := 114) rfl)) rfl, q_TB_in (q_mt1 (List.mem_of_getElem? (i := 11) rfl)) rfl, q_TB_in (q_mt8 (List.mem_of_getElem? (i := 115) rfl)) rfl, ⟨by decide, by decide, by decide +kernel⟩, by decide⟩
theorem l_cpM21 : q_cpok q_mt "BlockedCarsLaw" (181, 1, 136, 1) := ⟨(yX11_look, cX11_look, 9, (some .int)), rfl, q_TB_in (q_mt8 (List.mem_of_getElem? (i := 124) rfl)) rfl, q_TB_in (q_mt8 (List.mem_of_getElem? (i := 125) rfl)) rfl, q_TB_in (q_mt8 (List.mem_of_getElem? (i := 126) rfl)) rfl, q_TB_in (q_mt1 (List.mem_of_getElem? (i := 11) rfl)) rfl, q_TB_in (q_mt8 (List.mem_of_getElem? (i := 127) rfl)) rfl, ⟨by decide, by decide, by decide +kernel⟩, by decide⟩
theorem l_cpM22 : q_cpok q_mt "BlockedCarsLaw" (185, 1, 139, 4) := ⟨(yX11_fronts, cX11_fronts, 10, (some .int)), rfl, q_TB_in (q_mt8 (List.mem_of_getElem? (i := 132) rfl)) rfl, q_TB_in (q_mt8 (List.mem_of_getElem? (i := 133) rfl)) rfl, q_TB_in (q_mt8 (List.mem_of_getElem? (i := 134) rfl)) rfl, q_TB_in (q_mt1 (List.mem_of_getElem? (i := 11) rfl)) rfl, q_TB_in (q_mt8 (List.mem_of_getElem? (i := 135) rfl)) rfl, ⟨by decide, by decide, by decide +kernel⟩, by decide⟩
theorem l_cpM23 : q_cpok q_mt "BlockedCarsLaw" (188, 1, 141, 3) := ⟨(yX11_pays, cX11_pays, 5, (some .int)), rfl, q_TB_in (q_mt8 (List.mem_of_getElem? (i := 142) rfl)) rfl, q_TB_in (q_mt8 (List.mem_of_getElem? (i := 143) rfl)) rfl, q_TB_in (q_mt8 (List.mem_of_getElem? (i := 144) rfl)) rfl, q_TB_in (q_mt1 (List.mem_of_getElem? (i := 11) rfl)) rfl, q_TB_in (q_mt8 (List.mem_of_getElem? (i := 145) rfl)) rfl, ⟨by decide, by decide, by decide +kernel⟩, by decide⟩
theorem l_cpM24 : q_cpok q_mt "BlockedCarsLaw" (191, 1, 127, 1) := ⟨(yX11_spare, cX11_spare, 5, (some .int)), rfl, q_TB_in (q_mt8 (List.mem_of_getElem? (i := 88) rfl)) rfl, q_TB_in (q_mt8 (List.mem_of_getElem? (i := 89) rfl)) rfl, q_TB_in (q_mt8 (List.mem_of_getElem? (i := 90) rfl)) rfl, q_TB_in (q_mt1 (List.mem_of_getElem? (i := 11) rfl)) rfl, q_TB_in (q_mt8 (List.mem_of_getElem? (i := 91) rfl)) rfl, ⟨by decide, by decide, by decide +kernel⟩, by decide⟩
theorem l_cpM25 : q_cpok q_mt "BlockedCarsLaw" (194, 1, 142, 1) := ⟨(yX11_next, cX11_next, 3, (some .int)), rfl, q_TB_in (q_mt8 (List.mem_of_getElem? (i := 150) rfl)) rfl, q_TB_in (q_mt8 (List.mem_of_getElem? (i := 151) rfl)) rfl, q_TB_in (q_mt8 (List.mem_of_getElem? (i := 152) rfl)) rfl, q_TB_in (q_mt1 (List.mem_of_getElem? (i := 11) rfl)) rfl, q_TB_in (q_mt8 (List.mem_of_getElem? (i := 153) rfl)) rfl, ⟨by decide, by decide, by decide +kernel⟩, by decide⟩
theorem l_cpM26 : q_cpok q_mt "BlockedCarsLaw" (197, 1, 143, 1) := ⟨(yX11_most, cX11_most, 5, (some .int)), rfl, q_TB_in (q_mt8 (List.mem_of_getElem? (i := 154) rfl)) rfl, q_TB_in (q_mt8 (List.mem_of_getElem? (i := 155) rfl)) rfl, q_TB_in (q_mt8 (List.mem_of_getElem? (i := 156) rfl)) rfl, q_TB_in (q_mt1 (List.mem_of_getElem? (i := 11) rfl)) rfl, q_TB_in (q_mt8 (List.mem_of_getElem? (i := 157) rfl)) rfl, ⟨by decide, by decide, by decide +kernel⟩, by decide⟩
theorem l_cpM27 : q_cpok q_mt "BlockedCarsLaw" (200, 1, 147, 4) := ⟨(yX11_days, cX11_days, 5, (some .int)), rfl, q_TB_in (q_mt8 (List.mem_of_getElem? (i := 158) rfl)) rfl, q_TB_in (q_mt8 (List.mem_of_getElem? (i := 159) rfl)) rfl, q_TB_in (q_mt8 (List.mem_of_getElem? (i := 160) rfl)) rfl, q_TB_in (q_mt1 (List.mem_of_getElem? (i := 11) rfl)) rfl, q_TB_in (q_mt8 (List.mem_of_getElem? (i := 161) rfl)) rfl, ⟨by decide, by decide, by decide +kernel⟩, by decide⟩
theorem l_cpM28 : q_cpok q_mt "BlockedCarsLaw" (204, 1, 148, 6) := ⟨(yX11_span, cX11_span, 12, (some .int)), rfl, q_TB_in (q_mt8 (List.mem_of_getElem? (i := 174) rfl)) rfl, q_TB_in (q_mt8 (List.mem_of_getElem? (i := 175) rfl)) rfl, q_TB_in (q_mt8 (List.mem_of_getElem? (i := 176) rfl)) rfl, q_TB_in (q_mt1 (List.mem_of_getElem? (i := 11) rfl)) rfl, q_TB_in (q_mt8 (List.mem_of_getElem? (i := 177) rfl)) rfl, ⟨by decide, by decide, by decide +kernel⟩, by decide⟩
theorem l_cpM29 : q_cpok q_mt "BlockedCarsLaw" (208, 1, 151, 0) := ⟨(yX11_image, cX11_image, 1, (some .int)), rfl, q_TB_in (q_mt8 (List.mem_of_getElem? (i := 178) rfl)) rfl, q_TB_in (q_mt8 (List.mem_of_getElem? (i := 179) rfl)) rfl, q_TB_in (q_mt8 (List.mem_of_getElem? (i := 180) rfl)) rfl, q_TB_in (q_mt1 (List.mem_of_getElem? (i := 11) rfl)) rfl, q_TB_in (q_mt8 (List.mem_of_getElem? (i := 181) rfl)) rfl, ⟨by decide, by decide, by decide +kernel⟩, by decide⟩
theorem l_cpX29 : q_cpok q_mt "BlockedCarsLaw" (205, 1, 30, 0) := ⟨(yX10_image, cX10_image, 1, (some .int)), rfl, q_TB_in (q_mt2 (List.mem_of_getElem? (i := 137) rfl)) rfl, q_TB_in (q_mt2 (List.mem_of_getElem? (i := 138) rfl)) rfl, q_TB_in (q_mt2 (List.mem_of_getElem? (i := 139) rfl)) rfl, q_TB_in (q_mt1 (List.mem_of_getElem? (i := 1) rfl)) rfl, q_TB_in (q_mt2 (List.mem_of_getElem? (i := 140) rfl)) rfl, ⟨by decide, by decide, by decide +kernel⟩, by decide⟩
theorem l_cpM30 : q_cpok q_mt "BlockedCarsLaw" (212, 1, 152, 0) := ⟨(yX11_restore, cX11_restore, 1, (some .int)), rfl, q_TB_in (q_mt8 (List.mem_of_getElem? (i := 190) rfl)) rfl, q_TB_in (q_mt8 (List.mem_of_getElem? (i := 191) rfl)) rfl, q_TB_in (q_mt8 (List.mem_of_getElem? (i := 192) rfl)) rfl, q_TB_in (q_mt1 (List.mem_of_getElem? (i := 11) rfl)) rfl, q_TB_in (q_mt8 (List.mem_of_getElem? (i := 193) rfl)) rfl, ⟨by decide, by decide, by decide +kernel⟩, by decide⟩
theorem l_cpX30 : q_cpok q_mt "BlockedCarsLaw" (209, 1, 31, 0) := ⟨(yX10_restore, cX10_restore, 1, (some .int)), rfl, q_TB_in (q_mt2 (List.mem_of_getElem? (i := 152) rfl)) rfl, q_TB_in (q_mt2 (List.mem_of_getElem? (i := 153) rfl)) rfl, q_TB_in (q_mt2 (List.mem_of_getElem? (i := 154) rfl)) rfl, q_TB_in (q_mt1 (List.mem_of_getElem? (i := 1) rfl)) rfl, q_TB_in (q_mt2 (List.mem_of_getElem? (i := 155) rfl)) rfl, ⟨by decide, by decide, by decide +kernel⟩, by decide⟩
theorem l_cpM31 : q_cpok q_mt "BlockedCarsLaw" (216, 1, 153, 1) := ⟨(yX11_status, cX11_status, 2, (some .int)), rfl, q_TB_in (q_mt8 (List.mem_of_getElem? (i := 194) rfl)) rfl, q_TB_in (q_mt8 (List.mem_of_getElem? (i := 195) rfl)) rfl, q_TB_in (q_mt8 (List.mem_of_getElem? (i := 196) rfl)) rfl, q_TB_in (q_mt1 (List.mem_of_getElem? (i := 11) rfl)) rfl, q_TB_in (q_mt8 (List.mem_of_getElem? (i := 197) rfl)) rfl, ⟨by decide, by decide, by decide +kernel⟩, by decide⟩
theorem l_cpX31 : q_cpok q_mt "BlockedCarsLaw" (213, 1, 32, 1) := ⟨(yX10_status, cX10_status, 2, (some .int)), rfl, q_TB_in (q_mt2 (List.mem_of_getElem? (i := 156) rfl)) rfl, q_TB_in (q_mt2 (List.mem_of_getElem? (i := 157) rfl)) rfl, q_TB_in (q_mt2 (List.mem_of_getElem? (i := 158) rfl)) rfl, q_TB_in (q_mt1 (List.mem_of_getElem? (i := 1) rfl)) rfl, q_TB_in (q_mt2 (List.mem_of_getElem? (i := 159) rfl)) rfl, ⟨by decide, by decide, by decide +kernel⟩, by decide⟩
theorem l_cpM32 : q_cpok q_mt "BlockedCarsLaw" (220, 1, 154, 1) := ⟨(yX11_count, cX11_count, 2, (some .int)), rfl, q_TB_in (q_mt8 (List.mem_of_getElem? (i := 198) rfl)) rfl, q_TB_in (q_mt8 (List.mem_of_getElem? (i := 199) rfl)) rfl, q_TB_in (q_mt8 (List.mem_of_getElem? (i := 200) rfl)) rfl, q_TB_in (q_mt1 (List.mem_of_getElem? (i := 11) rfl)) rfl, q_TB_in (q_mt8 (List.mem_of_getElem? (i := 201) rfl)) rfl, ⟨by decide, by decide, by decide +kernel⟩, by decide⟩
theorem l_cpX32 : q_cpok q_mt "BlockedCarsLaw" (217, 1, 33, 1) := ⟨(yX10_count, cX10_count, 2, (some .int)), rfl, q_TB_in (q_mt2 (List.mem_of_getElem? (i := 160) rfl)) rfl, q_TB_in (q_mt2 (List.mem_of_getElem? (i := 161) rfl)) rfl, q_TB_in (q_mt2 (List.mem_of_getElem? (i := 162) rfl)) rfl, q_TB_in (q_mt1 (List.mem_of_getElem? (i := 1) rfl)) rfl, q_TB_in (q_mt2 (List.mem_of_getElem? (i := 163) rfl)) rfl, ⟨by decide, by decide, by decide +kernel⟩, by decide⟩
section LC9
variable {p : Program} {l : Launch} {e : Env} {s : State} {m : MethodId} {below : List Frame} {meth : Method} {c : Code} {b L : Nat} {xs : Nat → Int32} {G : qG} {H : Heap} {locs : List Loc} {cells slots : Nat} {arr : Array Slot} {S : qSt} {i : Nat}
set_option maxRecDepth 100000 in
set_option maxHeartbeats 2000000 in
theorem l_case0 (C : LM p s m meth c b L xs G) (hl9 : l.stackTraces = false) (hi : i + 9 ≤ L) {t B : Nat} {a : AS} (hBS : BS S t a B) (ht : t + 25 < 65536) (hB : B + 200 ≤ 2 ^ 20) (hH : q_H G S H) (hS : va_S (l_A s) s.heap H locs) (hl : lv_has arr 7 (l_lv b G i)) (hc : cells + 1 ≤ 601024) (hsl : slots + 6 ≤ 7293034) (kk : LKK p l e s m below meth c b G i cells slots t B) : W p l e room_1 s m #[Value.ref b] below meth c H locs cells slots (lw_Z below #[Value.ref b] s) (F0 m 188 arr []) := by
  have hcc : ∀ k, (sp_feed a (xs (i + 1)) (xs (i + 2)) (xs (i + 3)) (xs (i + 4)) (xs (i + 5))).1 ≠ .inl k := by
    intro k h
    unfold sp_feed at h
    split at h <;> cases h
  exact l_patB (off := (1914)) (n := 5) (iX := 102) (iM := 106) (r := sp_feed a (xs (i + 1)) (xs (i + 2)) (xs (i + 3)) (xs (i + 4)) (xs (i + 5))) (B := B) (t := t) (a := a) C hi (by decide) (by decide +kernel) (by decide +kernel) l_cpX0 (by decide +kernel) l_cpM0 (by decide +kernel) (sp_inr hcc) (a_feed l hBS.1 (xs (i + 1)) (xs (i + 2)) (xs (i + 3)) (xs (i + 4)) (xs (i + 5))) (fun S9 h => r_feed l h hBS.2.2.1 (xs (i + 1)) (xs (i + 2)) (xs (i + 3)) (xs (i + 4)) (xs (i + 5))) (IV_feed hBS.2.2 (xs (i + 1)) (xs (i + 2)) (xs (i + 3)) (xs (i + 4)) (xs (i + 5))) (Nat.le_add_right _ _) hBS hH hS hl hc hsl kk
set_option maxRecDepth 100000 in
set_option maxHeartbeats 2000000 in
theorem l_case1 (C : LM p s m meth c b L xs G) (hl9 : l.stackTraces = false) (hi : i + 9 ≤ L) {t B : Nat} {a : AS} (hBS : BS S t a B) (ht : t + 25 < 65536) (hB : B + 200 ≤ 2 ^ 20) (hH : q_H G S H) (hS : va_S (l_A s) s.heap H locs) (hl : lv_has arr 7 (l_lv b G i)) (hc : cells + 1 ≤ 601024) (hsl : slots + 6 ≤ 7293034) (kk : LKK p l e s m below meth c b G i cells slots t B) : W p l e room_1 s m #[Value.ref b] below meth c H locs cells slots (lw_Z below #[Value.ref b] s) (F0 m 261 arr []) := by
  have hcc : ∀ k, (sp_yard a (xs (i + 1))).1 = .inl k → k = 1 := spI_c sp_yard1_c
  refine l_patA (n := 1) (iW := 107) (iM := 112) (q := qL_yard) (hh := hL_yard) (r := sp_yard a (xs (i + 1))) (B := B) (t := t) (a := a) (g := gI) C hi (by decide) (by decide +kernel) (q_TB_in (q_mt2 (List.mem_of_getElem? (i := 164) rfl)) rfl) (q_TB_in (q_mt2 (List.mem_of_getElem? (i := 165) rfl)) rfl) hwL_yard l_ini ⟨by decide, by decide, by decide +kernel⟩ (by decide) l_cpM1 (by decide +kernel) l_cpT (wL_yard l (a_yard l hl9 hBS.1 hBS.2.2.1 ht hBS.2.2.2.1 (xs (i + 1))) hcc) (fun S9 h => r_yard l h hBS.2.2.1 hBS.2.2.2.1 (xs (i + 1))) (IV_yard hBS.2.2 (xs (i + 1))) (Nat.le_add_right _ _) (spC_1 hcc).1 hBS hH hS hl hc hsl ?_
  intro H1 locs1 arr1 S1 t1 hH1 hS1 hl1 h5 h6 hBS1 ht1 hgv
  exact l_endE (off := (1856)) C (by decide +kernel) (by decide +kernel) (by decide +kernel) (spC_1 hcc).1 (spC_1 hcc).2 hH1 hl1 h5 h6 hgv (kk H1 locs1 arr1 S1 t1 _ _ hH1 hS1 hl1 hBS1 ht1 (Nat.le_add_right _ _))
set_option maxRecDepth 100000 in
set_option maxHeartbeats 2000000 in
theorem l_case2 (C : LM p s m meth c b L xs G) (hl9 : l.stackTraces = false) (hi : i + 9 ≤ L) {t B : Nat} {a : AS} (hBS : BS S t a B) (ht : t + 25 < 65536) (hB : B + 200 ≤ 2 ^ 20) (hH : q_H G S H) (hS : va_S (l_A s) s.heap H locs) (hl : lv_has arr 7 (l_lv b G i)) (hc : cells + 1 ≤ 601024) (hsl : slots + 6 ≤ 7293034) (kk : LKK p l e s m below meth c b G i cells slots t B) : W p l e room_1 s m #[Value.ref b] below meth c H locs cells slots (lw_Z below #[Value.ref b] s) (F0 m 317 arr []) := by
  have hcc : ∀ k, (sp_law a (xs (i + 1))).1 = .inl k → k = 1 := spI_c sp_law1_c
  refine l_patA (n := 1) (iW := 117) (iM := 119) (q := qL_law) (hh := hL_law) (r := sp_law a (xs (i + 1))) (B := B) (t := t) (a := a) (g := gI) C hi (by decide) (by decide +kernel) (q_TB_in (q_mt3 (List.mem_of_getElem? (i := 156) rfl)) rfl) (q_TB_in (q_mt3 (List.mem_of_getElem? (i := 157) rfl)) rfl) hwL_law l_ini ⟨by decide, by decide, by decide +kernel⟩ (by decide) l_cpM2 (by decide +kernel) l_cpT (wL_law l (a_law l hl9 hBS.1 hBS.2.2.1 ht (xs (i + 1))) hcc) (fun S9 h => r_law l h hBS.2.2.1 (xs (i + 1))) (IV_law hBS.2.2 (xs (i + 1))) (Nat.le_add_right _ _) (spC_1 hcc).1 hBS hH hS hl hc hsl ?_
  intro H1 locs1 arr1 S1 t1 hH1 hS1 hl1 h5 h6 hBS1 ht1 hgv
  exact l_endE (off := (1800)) C (by decide +kernel) (by decide +kernel) (by decide +kernel) (spC_1 hcc).1 (spC_1 hcc).2 hH1 hl1 h5 h6 hgv (kk H1 locs1 arr1 S1 t1 _ _ hH1 hS1 hl1 hBS1 ht1 (Nat.le_add_right _ _))
set_option maxRecDepth 100000 in
set_option maxHeartbeats 2000000 in
theorem l_case3 (C : LM p s m meth c b L xs G) (hl9 : l.stackTraces = false) (hi : i + 9 ≤ L) {t B : Nat} {a : AS} (hBS : BS S t a B) (ht : t + 25 < 65536) (hB : B + 200 ≤ 2 ^ 20) (hH : q_H G S H) (hS : va_S (l_A s) s.heap H locs) (hl : lv_has arr 7 (l_lv b G i)) (hc : cells + 1 ≤ 601024) (hsl : slots + 6 ≤ 7293034) (kk : LKK p l e s m below meth c b G i cells slots t B) : W p l e room_1 s m #[Value.ref b] below meth c H locs cells slots (lw_Z below #[Value.ref b] s) (F0 m 373 arr []) := by
  have hcc : ∀ k, (sp_work a (xs (i + 1))).1 = .inl k → k = 1 := spI_c sp_work1_c
  refine l_patA (n := 1) (iW := 120) (iM := 122) (q := qL_work) (hh := hL_work) (r := sp_work a (xs (i + 1))) (B := B) (t := t) (a := a) (g := gI) C hi (by decide) (by decide +kernel) (q_TB_in (q_mt3 (List.mem_of_getElem? (i := 218) rfl)) rfl) (q_TB_in (q_mt3 (List.mem_of_getElem? (i := 219) rfl)) rfl) hwL_work l_ini ⟨by decide, by decide, by decide +kernel⟩ (by decide) l_cpM3 (by decide +kernel) l_cpT (wL_work l (a_work l hl9 hBS.1 hBS.2.2.1 ht (xs (i + 1))) hcc) (fun S9 h => r_work l h hBS.2.2.1 (xs (i + 1))) (IV_work hBS.2.2 hB (xs (i + 1))) (Nat.le_refl _) (spC_1 hcc).1 hBS hH hS hl hc hsl ?_
  intro H1 locs1 arr1 S1 t1 hH1 hS1 hl1 h5 h6 hBS1 ht1 hgv
  exact l_endE (off := (1744)) C (by decide +kernel) (by decide +kernel) (by decide +kernel) (spC_1 hcc).1 (spC_1 hcc).2 hH1 hl1 h5 h6 hgv (kk H1 locs1 arr1 S1 t1 _ _ hH1 hS1 hl1 hBS1 ht1 (Nat.le_refl _))
set_option maxRecDepth 100000 in
set_option maxHeartbeats 2000000 in
theorem l_case4 (C : LM p s m meth c b L xs G) (hl9 : l.stackTraces = false) (hi : i + 9 ≤ L) {t B : Nat} {a : AS} (hBS : BS S t a B) (ht : t + 25 < 65536) (hB : B + 200 ≤ 2 ^ 20) (hH : q_H G S H) (hS : va_S (l_A s) s.heap H locs) (hl : lv_has arr 7 (l_lv b G i)) (hc : cells + 1 ≤ 601024) (hsl : slots + 6 ≤ 7293034) (kk : LKK p l e s m below meth c b G i cells slots t B) : W p l e room_1 s m #[Value.ref b] below meth c H locs cells slots (lw_Z below #[Value.ref b] s) (F0 m 429 arr []) := by
  have hcc : ∀ k, (sp_spots a (xs (i + 1))).1 = .inl k → k = 1 := spI_c sp_spots1_c
  refine l_patA (n := 1) (iW := 123) (iM := 125) (q := qL_spots) (hh := hL_spots) (r := sp_spots a (xs (i + 1))) (B := B) (t := t) (a := a) (g := gI) C hi (by decide) (by decide +kernel) (q_TB_in (q_mt4 (List.mem_of_getElem? (i := 159) rfl)) rfl) (q_TB_in (q_mt4 (List.mem_of_getElem? (i := 160) rfl)) rfl) hwL_spots l_ini ⟨by decide, by decide, by decide +kernel⟩ (by decide) l_cpM4 (by decide +kernel) l_cpT (wL_spots l (a_spots l hl9 hBS.1 hBS.2.2.1 ht (xs (i + 1))) hcc) (fun S9 h => r_spots l h hBS.2.2.1 (xs (i + 1))) (IV_spots hBS.2.2 (xs (i + 1))) (Nat.le_add_right _ _) (spC_1 hcc).1 hBS hH hS hl hc hsl ?_
  intro H1 locs1 arr1 S1 t1 hH1 hS1 hl1 h5 h6 hBS1 ht1 hgv
  exact l_endE (off := (1688)) C (by decide +kernel) (by decide +kernel) (by decide +kernel) (spC_1 hcc).1 (spC_1 hcc).2 hH1 hl1 h5 h6 hgv (kk H1 locs1 arr1 S1 t1 _ _ hH1 hS1 hl1 hBS1 ht1 (Nat.le_add_right _ _))
set_option maxRecDepth 100000 in
set_option maxHeartbeats 2000000 in
theorem l_case5 (C : LM p s m meth c b L xs G) (hl9 : l.stackTraces = false) (hi : i + 9 ≤ L) {t B : Nat} {a : AS} (hBS : BS S t a B) (ht : t + 25 < 65536) (hB : B + 200 ≤ 2 ^ 20) (hH : q_H G S H) (hS : va_S (l_A s) s.heap H locs) (hl : lv_has arr 7 (l_lv b G i)) (hc : cells + 1 ≤ 601024) (hsl : slots + 6 ≤ 7293034) (kk : LKK p l e s m below meth c b G i cells slots t B) : W p l e room_1 s m #[Value.ref b] below meth c H locs cells slots (lw_Z below #[Value.ref b] s) (F0 m 485 arr []) := by
  have hcc : ∀ k, (sp_fault a).1 ≠ .inl k := fun k h => by cases h
  exact l_patB (off := (1677)) (n := 0) (iX := 126) (iM := 129) (r := sp_fault a) (B := B) (t := t) (a := a) C hi (by decide) (by decide +kernel) (by decide +kernel) l_cpX5 (by decide +kernel) l_cpM5 (by decide +kernel) (sp_inr hcc) (a_fault l hBS.1 ) (fun S9 h => r_fault l h hBS.2.2.1 ) (IV_sp_fault hBS.2.2 ) (Nat.le_add_right _ _) hBS hH hS hl hc hsl kk
set_option maxRecDepth 100000 in
set_option maxHeartbeats 2000000 in
theorem l_case6 (C : LM p s m meth c b L xs G) (hl9 : l.stackTraces = false) (hi : i + 9 ≤ L) {t B : Nat} {a : AS} (hBS : BS S t a B) (ht : t + 25 < 65536) (hB : B + 200 ≤ 2 ^ 20) (hH : q_H G S H) (hS : va_S (l_A s) s.heap H locs) (hl : lv_has arr 7 (l_lv b G i)) (hc : cells + 1 ≤ 601024) (hsl : slots + 6 ≤ 7293034) (kk : LKK p l e s m below meth c b G i cells slots t B) : W p l e room_1 s m #[Value.ref b] below meth c H locs cells slots (lw_Z below #[Value.ref b] s) (F0 m 498 arr []) := by
  have hcc : ∀ k, (sp_undo a).1 ≠ .inl k := by
    intro k h
    unfold sp_undo at h
    split at h <;> cases h
  exact l_patB (off := (1664)) (n := 0) (iX := 130) (iM := 133) (r := sp_undo a) (B := B) (t := t) (a := a) C hi (by decide) (by decide +kernel) (by decide +kernel) l_cpX6 (by decide +kernel) l_cpM6 (by decide +kernel) (sp_inr hcc) (a_undo l hBS.1 hBS.2.2.1 ) (fun S9 h => r_undo l h hBS.2.2.1 ) (IV_undo hBS.2.2 ) (Nat.le_add_right _ _) hBS hH hS hl hc hsl kk
set_option maxRecDepth 100000 in
set_option maxHeartbeats 2000000 in
theorem l_case7 (C : LM p s m meth c b L xs G) (hl9 : l.stackTraces = false) (hi : i + 9 ≤ L) {t B : Nat} {a : AS} (hBS : BS S t a B) (ht : t + 25 < 65536) (hB : B + 200 ≤ 2 ^ 20) (hH : q_H G S H) (hS : va_S (l_A s) s.heap H locs) (hl : lv_has arr 7 (l_lv b G i)) (hc : cells + 1 ≤ 601024) (hsl : slots + 6 ≤ 7293034) (kk : LKK p l e s m below meth c b G i cells slots t B) : W p l e room_1 s m #[Value.ref b] below meth c H locs cells slots (lw_Z below #[Value.ref b] s) (F0 m 511 arr []) := by
  have hcc : ∀ k, (sp_told a (xs (i + 1))).1 = .inl k → k = 1 := sp_told_c
  refine l_patA (n := 1) (iW := 134) (iM := 136) (q := qL_told) (hh := hL_told) (r := sp_told a (xs (i + 1))) (B := B) (t := t) (a := a) (g := gI) C hi (by decide) (by decide +kernel) (q_TB_in (q_mt4 (List.mem_of_getElem? (i := 183) rfl)) rfl) (q_TB_in (q_mt4 (List.mem_of_getElem? (i := 184) rfl)) rfl) hwL_told l_ini ⟨by decide, by decide, by decide +kernel⟩ (by decide) l_cpM7 (by decide +kernel) l_cpT (wL_told l (a_told l hl9 hBS.1 hBS.2.2.1 (xs (i + 1))) hcc) (fun S9 h => r_told l h hBS.2.2.1 (xs (i + 1))) (IV_sp_told hBS.2.2 (xs (i + 1))) (Nat.le_add_right _ _) (spC_1 hcc).1 hBS hH hS hl hc hsl ?_
  intro H1 locs1 arr1 S1 t1 hH1 hS1 hl1 h5 h6 hBS1 ht1 hgv
  exact l_endE (off := (1606)) C (by decide +kernel) (by decide +kernel) (by decide +kernel) (spC_1 hcc).1 (spC_1 hcc).2 hH1 hl1 h5 h6 hgv (kk H1 locs1 arr1 S1 t1 _ _ hH1 hS1 hl1 hBS1 ht1 (Nat.le_add_right _ _))
set_option maxRecDepth 100000 in
set_option maxHeartbeats 2000000 in
theorem l_case8 (C : LM p s m meth c b L xs G) (hl9 : l.stackTraces = false) (hi : i + 9 ≤ L) {t B : Nat} {a : AS} (hBS : BS S t a B) (ht : t + 25 < 65536) (hB : B + 200 ≤ 2 ^ 20) (hH : q_H G S H) (hS : va_S (l_A s) s.heap H locs) (hl : lv_has arr 7 (l_lv b G i)) (hc : cells + 1 ≤ 601024) (hsl : slots + 6 ≤ 7293034) (kk : LKK p l e s m below meth c b G i cells slots t B) : W p l e room_1 s m #[Value.ref b] below meth c H locs cells slots (lw_Z below #[Value.ref b] s) (F0 m 567 arr []) := by
  have hcc : ∀ k, (sp_lane a (xs (i + 1)) (xs (i + 2))).1 = .inl k → k = 1 ∨ k = 2 := spL_c (fun k h => by cases h)
  refine l_patA (n := 2) (iW := 137) (iM := 140) (q := qL_lane) (hh := hL_lane) (r := sp_lane a (xs (i + 1)) (xs (i + 2))) (B := B) (t := t) (a := a) (g := gI) C hi (by decide) (by decide +kernel) (q_TB_in (q_mt4 (List.mem_of_getElem? (i := 208) rfl)) rfl) (q_TB_in (q_mt4 (List.mem_of_getElem? (i := 209) rfl)) rfl) hwL_lane l_ini ⟨by decide, by decide, by decide +kernel⟩ (by decide) l_cpM8 (by decide +kernel) l_cpT (wL_lane l (a_lane l hl9 hBS.1 hBS.2.2.1 ht (xs (i + 1)) (xs (i + 2))) hcc) (fun S9 h => r_lane l h hBS.2.2.1 (xs (i + 1)) (xs (i + 2))) (IV_sp_lane hBS.2.2 (xs (i + 1)) (xs (i + 2))) (Nat.le_add_right _ _) (spC_2 hcc).1 hBS hH hS hl hc hsl ?_
  intro H1 locs1 arr1 S1 t1 hH1 hS1 hl1 h5 h6 hBS1 ht1 hgv
  exact l_endE (off := (1538)) C (by decide +kernel) (by decide +kernel) (by decide +kernel) (spC_2 hcc).1 (spC_2 hcc).2 hH1 hl1 h5 h6 hgv (kk H1 locs1 arr1 S1 t1 _ _ hH1 hS1 hl1 hBS1 ht1 (Nat.le_add_right _ _))
set_option maxRecDepth 100000 in
set_option maxHeartbeats 2000000 in
theorem l_case9 (C : LM p s m meth c b L xs G) (hl9 : l.stackTraces = false) (hi : i + 9 ≤ L) {t B : Nat} {a : AS} (hBS : BS S t a B) (ht : t + 25 < 65536) (hB : B + 200 ≤ 2 ^ 20) (hH : q_H G S H) (hS : va_S (l_A s) s.heap H locs) (hl : lv_has arr 7 (l_lv b G i)) (hc : cells + 1 ≤ 601024) (hsl : slots + 6 ≤ 7293034) (kk : LKK p l e s m below meth c b G i cells slots t B) : W p l e room_1 s m #[Value.ref b] below meth c H locs cells slots (lw_Z below #[Value.ref b] s) (F0 m 635 arr []) := by
  have hcc : ∀ k, (sp_car a (xs (i + 1)) (xs (i + 2))).1 = .inl k → k = 1 ∨ k = 2 := spK_c (fun k h => by cases h)
  refine l_patA (n := 2) (iW := 141) (iM := 143) (q := qL_car) (hh := hL_car) (r := sp_car a (xs (i + 1)) (xs (i + 2))) (B := B) (t := t) (a := a) (g := gI) C hi (by decide) (by decide +kernel) (q_TB_in (q_mt5 (List.mem_of_getElem? (i := 2) rfl)) rfl) (q_TB_in (q_mt5 (List.mem_of_getElem? (i := 3) rfl)) rfl) hwL_car l_ini ⟨by decide, by decide, by decide +kernel⟩ (by decide) l_cpM9 (by decide +kernel) l_cpT (wL_car l (a_car l hl9 hBS.1 hBS.2.2.1 ht (xs (i + 1)) (xs (i + 2))) hcc) (fun S9 h => r_car l h hBS.2.2.1 (xs (i + 1)) (xs (i + 2))) (IV_sp_car hBS.2.2 (xs (i + 1)) (xs (i + 2))) (Nat.le_add_right _ _) (spC_2 hcc).1 hBS hH hS hl hc hsl ?_
  intro H1 locs1 arr1 S1 t1 hH1 hS1 hl1 h5 h6 hBS1 ht1 hgv
  exact l_endE (off := (1470)) C (by decide +kernel) (by decide +kernel) (by decide +kernel) (spC_2 hcc).1 (spC_2 hcc).2 hH1 hl1 h5 h6 hgv (kk H1 locs1 arr1 S1 t1 _ _ hH1 hS1 hl1 hBS1 ht1 (Nat.le_add_right _ _))
set_option maxRecDepth 100000 in
set_option maxHeartbeats 2000000 in
theorem l_case10 (C : LM p s m meth c b L xs G) (hl9 : l.stackTraces = false) (hi : i + 9 ≤ L) {t B : Nat} {a : AS} (hBS : BS S t a B) (ht : t + 25 < 65536) (hB : B + 200 ≤ 2 ^ 20) (hH : q_H G S H) (hS : va_S (l_A s) s.heap H locs) (hl : lv_has arr 7 (l_lv b G i)) (hc : cells + 1 ≤ 601024) (hsl : slots + 6 ≤ 7293034) (kk : LKK p l e s m below meth c b G i cells slots t B) : W p l e room_1 s m #[Value.ref b] below meth c H locs cells slots (lw_Z below #[Value.ref b] s) (F0 m 703 arr []) := by
  have hcc : ∀ k, (sp_on a (xs (i + 1)) (xs (i + 2))).1 = .inl k → k = 1 := spL_t (fun k h => by cases h)
  refine l_patA (n := 2) (iW := 144) (iM := 146) (q := qL_on) (hh := hL_on) (r := sp_on a (xs (i + 1)) (xs (i + 2))) (B := B) (t := t) (a := a) (g := gI) C hi (by decide) (by decide +kernel) (q_TB_in (q_mt5 (List.mem_of_getElem? (i := 28) rfl)) rfl) (q_TB_in (q_mt5 (List.mem_of_getElem? (i := 29) rfl)) rfl) hwL_on l_ini ⟨by decide, by decide, by decide +kernel⟩ (by decide) l_cpM10 (by decide +kernel) l_cpT (wL_on l (a_on l hl9 hBS.1 hBS.2.2.1 ht (xs (i + 1)) (xs (i + 2))) hcc) (fun S9 h => r_on l h hBS.2.2.1 (xs (i + 1)) (xs (i + 2))) (IV_sp_on hBS.2.2 (xs (i + 1)) (xs (i + 2))) (Nat.le_add_right _ _) (spC_1 hcc).1 hBS hH hS hl hc hsl ?_
  intro H1 locs1 arr1 S1 t1 hH1 hS1 hl1 h5 h6 hBS1 ht1 hgv
  exact l_endE (off := (1402)) C (by decide +kernel) (by decide +kernel) (by decide +kernel) (spC_1 hcc).1 (spC_1 hcc).2 hH1 hl1 h5 h6 hgv (kk H1 locs1 arr1 S1 t1 _ _ hH1 hS1 hl1 hBS1 ht1 (Nat.le_add_right _ _))
set_option maxRecDepth 100000 in
set_option maxHeartbeats 2000000 in
theorem l_case11 (C : LM p s m meth c b L xs G) (hl9 : l.stackTraces = false) (hi : i + 9 ≤ L) {t B : Nat} {a : AS} (hBS : BS S t a B) (ht : t + 25 < 65536) (hB : B + 200 ≤ 2 ^ 20) (hH : q_H G S H) (hS : va_S (l_A s) s.heap H locs) (hl : lv_has arr 7 (l_lv b G i)) (hc : cells + 1 ≤ 601024) (hsl : slots + 6 ≤ 7293034) (kk : LKK p l e s m below meth c b G i cells slots t B) : W p l e room_1 s m #[Value.ref b] below meth c H locs cells slots (lw_Z below #[Value.ref b] s) (F0 m 771 arr []) := by
  have hcc : ∀ k, (sp_secs a (xs (i + 1)) (xs (i + 2))).1 = .inl k → k = 1 ∨ k = 2 := spK_c (fun k h => by cases h)
  refine l_patA (n := 2) (iW := 147) (iM := 149) (q := qL_seconds) (hh := hL_seconds) (r := sp_secs a (xs (i + 1)) (xs (i + 2))) (B := B) (t := t) (a := a) (g := gI) C hi (by decide) (by decide +kernel) (q_TB_in (q_mt5 (List.mem_of_getElem? (i := 36) rfl)) rfl) (q_TB_in (q_mt5 (List.mem_of_getElem? (i := 37) rfl)) rfl) hwL_seconds l_ini ⟨by decide, by decide, by decide +kernel⟩ (by decide) l_cpM11 (by decide +kernel) l_cpT (wL_seconds l (a_seconds l hl9 hBS.1 hBS.2.2.1 ht (xs (i + 1)) (xs (i + 2))) hcc) (fun S9 h => r_seconds l h hBS.2.2.1 (xs (i + 1)) (xs (i + 2))) (IV_sp_secs hBS.2.2 (xs (i + 1)) (xs (i + 2))) (Nat.le_add_right _ _) (spC_2 hcc).1 hBS hH hS hl hc hsl ?_
  intro H1 locs1 arr1 S1 t1 hH1 hS1 hl1 h5 h6 hBS1 ht1 hgv
  exact l_endE (off := (1334)) C (by decide +kernel) (by decide +kernel) (by decide +kernel) (spC_2 hcc).1 (spC_2 hcc).2 hH1 hl1 h5 h6 hgv (kk H1 locs1 arr1 S1 t1 _ _ hH1 hS1 hl1 hBS1 ht1 (Nat.le_add_right _ _))
end LC9
