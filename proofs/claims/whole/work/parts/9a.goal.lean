/-! Both sides' goals -/
theorem bo_0 {r : List Nat} : bo r = 0 ↔ r = [] := by
  refine ⟨fun h => ?_, fun h => by rw [h]; rfl⟩
  cases r with
  | nil => rfl
  | cons c r =>
    have := bo_bit c (c :: r)
    rw [h, Nat.zero_testBit] at this
    simp at this
theorem es_nil : es nil3 = 0 := rfl
theorem es_0 {P : Nat → List Nat} (h : st_ok P) : es P = 0 ↔ bs P = 0 := by
  refine ⟨fun e => ?_, fun e => ?_⟩
  · have hn : st_ok nil3 := ⟨⟨by simp [nil3], fun c h => by cases h⟩, ⟨by simp [nil3], fun c h => by cases h⟩, ⟨by simp [nil3], fun c h => by cases h⟩⟩
    have a := fun k (hk : k < 3) => es_row_inj h hn (by rw [e, es_nil]) hk
    unfold bs
    rw [a 0 (by decide), a 1 (by decide), a 2 (by decide)]
    rfl
  · have hb : ∀ k, k < 3 → P k = [] := fun k hk => by
      cases hr : P k with
      | nil => rfl
      | cons c r =>
        have hm : c ∈ P k := by rw [hr]; exact List.mem_cons_self
        have := bs_in P c
        rw [e, Nat.zero_testBit] at this
        have hn : lnof P c = none := by
          cases q : lnof P c with
          | none => rfl
          | some j => rw [q] at this; cases this
        have h3 : k = 0 ∨ k = 1 ∨ k = 2 := by omega
        unfold lnof at hn
        rcases h3 with q | q | q <;> subst q <;> simp only [hm, if_true] at hn
        · cases hn
        · split at hn <;> cases hn
        · split at hn
          · cases hn
          · split at hn <;> cases hn
    have : ∀ k, k < 3 → P k = nil3 k := fun k hk => hb k hk
    unfold es
    rw [this 0 (by decide), this 1 (by decide), this 2 (by decide)]
    exact es_nil
theorem rch_igl {Y : YD} {P : Nat → List Nat} (hP : p_ok Y P) {g : Option Nat} (hg : ∀ c, g = some c → (lnof P c).isSome = true) : rch P g = igl P g := by
  cases g with
  | none =>
    unfold rch igl
    rw [Bool.eq_iff_iff, decide_eq_true_eq, decide_eq_true_eq]
    exact es_0 hP.1
  | some c =>
    have h1 := hg c rfl
    cases hl : lnof P c with
    | none => rw [hl] at h1; cases h1
    | some j =>
      have hm := (lnof_lt hl).2
      unfold rch igl ahd
      dsimp only
      rw [hl]
      dsimp only
      rw [Bool.eq_iff_iff, decide_eq_true_eq, decide_eq_true_eq, bo_0]
      cases hr : P j with
      | nil => rw [hr] at hm; cases hm
      | cons x r =>
        rw [List.takeWhile_cons, List.head?_cons]
        by_cases e : x = c
        · simp [e]
        · simp [e]
theorem erase_split {A t : List Nat} {c : Nat} (h : c ∉ A) : (A ++ c :: t).erase c = A ++ t := by
  rw [List.erase_append_right _ h, List.erase_cons_head]
