/-! The best evening: both sides find the same -/
def isMn (o : Option Nat) (Q : Nat → Prop) : Prop := match o with
  | none => ∀ v, ¬ Q v
  | some a => Q a ∧ ∀ v, Q v → a ≤ v
theorem isMn_u {o o' : Option Nat} {Q : Nat → Prop} (h : isMn o Q) (h' : isMn o' Q) : o = o' := by
  cases o with
  | none => cases o' with
    | none => rfl
    | some b => exact absurd h'.1 (h b)
  | some a => cases o' with
    | none => exact absurd h.1 (h' a)
    | some b =>
      have := h.2 b h'.1
      have := h'.2 a h.1
      congr 1
      omega
theorem isMn_or {a b : Option Nat} {Q R : Nat → Prop} (h : isMn a Q) (h' : isMn b R) : isMn (mnO a b) (fun v => Q v ∨ R v) := by
  cases a with
  | none => cases b with
    | none => exact fun v q => q.elim (h v) (h' v)
    | some b => exact ⟨Or.inr h'.1, fun v q => q.elim (fun q => absurd q (h v)) (h'.2 v)⟩
  | some a => cases b with
    | none => exact ⟨Or.inl h.1, fun v q => q.elim (h.2 v) (fun q => absurd q (h' v))⟩
    | some b =>
      refine ⟨?_, fun v q => ?_⟩
      · rcases Nat.le_total a b with e | e
        · rw [Nat.min_eq_left e]; exact Or.inl h.1
        · rw [Nat.min_eq_right e]; exact Or.inr h'.1
      · rcases q with q | q
        · have := h.2 v q; have := Nat.min_le_left a b; omega
        · have := h'.2 v q; have := Nat.min_le_right a b; omega
theorem isMn_cg {a : Option Nat} {Q R : Nat → Prop} (h : isMn a Q) (e : ∀ v, Q v ↔ R v) : isMn a R := by
  cases a with
  | none => exact fun v q => h v ((e v).mpr q)
  | some a => exact ⟨(e a).mp h.1, fun v q => h.2 v ((e v).mpr q)⟩
theorem isMn_o (o : Option Nat) : isMn o (fun v => o = some v) := by
  cases o with
  | none => exact fun v q => by cases q
  | some a => exact ⟨rfl, fun v q => by cases q; exact Nat.le_refl _⟩
theorem evb_mn (Y : YD) (told : Nat) : ∀ n, isMn (evb Y told n) (fun v => ∃ w, w < n ∧ evl Y told (Y 1 0) 0 w nil3 0 = some v)
  | 0 => fun v ⟨w, h, _⟩ => by omega
  | n + 1 => by
    refine isMn_cg (isMn_or (evb_mn Y told n) (isMn_o _)) fun v => ⟨fun q => ?_, fun ⟨w, h1, h2⟩ => ?_⟩
    · rcases q with ⟨w, h1, h2⟩ | q
      · exact ⟨w, by omega, h2⟩
      · exact ⟨n, by omega, q⟩
    · rcases Nat.lt_or_ge w n with e | e
      · exact Or.inl ⟨w, e, h2⟩
      · rw [show w = n by omega] at h2; exact Or.inr h2
theorem fold_mn : ∀ (L : List Nat) (b : Option Nat) (Q : Nat → Prop), isMn b Q → isMn (L.foldl (fun o v => mnO o (some v)) b) (fun v => Q v ∨ v ∈ L)
  | [], b, Q, h => isMn_cg h fun v => by simp
  | u :: L, b, Q, h => isMn_cg (fold_mn L _ _ (isMn_or h (isMn_o (some u)))) fun v => by
    simp only [Option.some.injEq, List.mem_cons]
    refine ⟨fun q => ?_, fun q => ?_⟩
    · rcases q with (q | q) | q
      · exact Or.inl q
      · exact Or.inr (Or.inl q.symm)
      · exact Or.inr (Or.inr q)
    · rcases q with q | q | q
      · exact Or.inl (Or.inl q)
      · exact Or.inl (Or.inr q.symm)
      · exact Or.inr q
theorem fold_upd : ∀ (L : List Nat) (b : Option Nat), L.Pairwise (fun u v => u % 4096 < v % 4096) → (∀ a, b = some a → ∀ u ∈ L, a % 4096 < u % 4096) → L.foldl updE b = L.foldl (fun o v => mnO o (some v)) b
  | [], _, _, _ => rfl
  | v :: L, b, hp, hb => by
    rw [List.pairwise_cons] at hp
    have e : updE b v = mnO b (some v) := by
      cases b with
      | none => rfl
      | some a =>
        have := hb a rfl v List.mem_cons_self
        unfold updE mnO
        dsimp only
        split
        · rw [Nat.min_eq_right (by omega)]
        · rw [Nat.min_eq_left (by omega)]
    rw [List.foldl_cons, List.foldl_cons, ← e]
    refine fold_upd L _ hp.2 fun a ha u hu => ?_
    cases b with
    | none => cases ha; exact hp.1 u hu
    | some x =>
      unfold updE at ha
      dsimp only at ha
      split at ha
      · cases ha; exact hp.1 u hu
      · cases ha; exact hb _ rfl u (List.mem_cons_of_mem _ hu)
def rcn (told : Nat) : Nat → Nat → Nat
  | 0, _ => 0
  | k + 1, c => rcn told k (c + 1) + (if told.testBit c = true then 1 else 0)
theorem rcn_cnt (told : Nat) : ∀ k c, fa_cnt (fun i => told.testBit i) (c + k) = fa_cnt (fun i => told.testBit i) c + rcn told k c
  | 0, c => rfl
  | k + 1, c => by
    have := rcn_cnt told k (c + 1)
    rw [show c + (k + 1) = c + 1 + k by omega, this, rcn]
    cases h : told.testBit c with
    | true => rw [fa_cnt_yes (p := fun i => told.testBit i) h, if_pos rfl]; omega
    | false => rw [fa_cnt_no (p := fun i => told.testBit i) h, if_neg (by decide)]; omega
theorem LV_pw {Y : YD} (hY : y_ok Y) (told : Nat) : ∀ (k c : Nat) (P : Nat → List Nat) (g : Nat), (g + 1) * 4 ^ rcn told k c ≤ 4096 → (∀ u ∈ LV Y told k c P g, g * 4 ^ rcn told k c ≤ u % 4096 ∧ u % 4096 < (g + 1) * 4 ^ rcn told k c) ∧ (LV Y told k c P g).Pairwise (fun u v => u % 4096 < v % 4096)
  | 0, c, P, g, h => by
    simp only [LV, rcn, Nat.pow_zero, Nat.mul_one, List.mem_singleton] at h ⊢
    refine ⟨fun u hu => by subst hu; omega, List.pairwise_singleton _ _⟩
  | k + 1, c, P, g, h => by
    have h3 := hY.1
    rw [LV]
    rw [rcn] at h ⊢
    by_cases ht : told.testBit c = true
    · rw [if_pos ht] at h ⊢
      rw [if_pos ht]
      rw [Nat.pow_succ] at h ⊢
      generalize hX : 4 ^ rcn told k (c + 1) = X at h ⊢
      have hj : ∀ j, j < 3 → (4 * g + j + 1) * X ≤ 4096 := fun j hj => by
        refine Nat.le_trans (Nat.mul_le_mul_right X (show 4 * g + j + 1 ≤ 4 * (g + 1) by omega)) ?_
        rw [Nat.mul_comm 4 (g + 1), Nat.mul_assoc, Nat.mul_comm 4 X]
        exact h
      have ih := fun j (hj3 : j < 3) => LV_pw hY told k (c + 1) (sp P j (c :: P j)) (4 * g + j) (by rw [hX]; exact hj j hj3)
      rw [hX] at ih
      refine ⟨fun u hu => ?_, ?_⟩
      · obtain ⟨j, hj1, hj2⟩ := List.mem_flatMap.mp hu
        rw [List.mem_range] at hj1
        split at hj2
        · cases hj2
        · have a := (ih j (by omega)).1 u hj2
          have b1 : g * (X * 4) ≤ (4 * g + j) * X := by
            rw [show g * (X * 4) = (4 * g) * X by rw [Nat.mul_comm X 4, ← Nat.mul_assoc, Nat.mul_comm g 4]]
            exact Nat.mul_le_mul_right X (by omega)
          have b2 : (4 * g + j + 1) * X ≤ (g + 1) * (X * 4) := by
            rw [show (g + 1) * (X * 4) = (4 * (g + 1)) * X by rw [Nat.mul_comm X 4, ← Nat.mul_assoc, Nat.mul_comm (g + 1) 4]]
            exact Nat.mul_le_mul_right X (by omega)
          exact ⟨Nat.le_trans b1 a.1, Nat.lt_of_lt_of_le a.2 b2⟩
      · rw [List.pairwise_flatMap]
        refine ⟨fun j hj1 => ?_, ?_⟩
        · rw [List.mem_range] at hj1
          split
          · exact List.Pairwise.nil
          · exact (ih j (by omega)).2
        · refine List.Pairwise.imp_of_mem ?_ List.pairwise_lt_range
          intro i j hi hj1 hij u hu v hv
          rw [List.mem_range] at hi hj1
          split at hu
          · cases hu
          · split at hv
            · cases hv
            · have a := (ih i (by omega)).1 u hu
              have b := (ih j (by omega)).1 v hv
              have : (4 * g + i + 1) * X ≤ (4 * g + j) * X := Nat.mul_le_mul_right X (by omega)
              omega
    · rw [if_neg ht] at h ⊢
      rw [if_neg ht]
      exact LV_pw hY told k (c + 1) P g h
theorem LV_mem (Y : YD) (told : Nat) : ∀ (k c : Nat) (P : Nat → List Nat) (g v : Nat), v ∈ LV Y told k c P g ↔ ∃ w, w < Y 0 0 ^ rcn told k c ∧ evl Y told k c w P g = some v
  | 0, c, P, g, v => by
    simp only [LV, evl, rcn, Nat.pow_zero, List.mem_singleton, Option.some.injEq]
    exact ⟨fun h => ⟨0, by decide, h.symm⟩, fun ⟨w, _, h⟩ => h.symm⟩
  | k + 1, c, P, g, v => by
    rw [LV, rcn]
    by_cases ht : told.testBit c = true
    · rw [if_pos ht, if_pos ht, Nat.pow_succ, List.mem_flatMap]
      refine ⟨fun ⟨j, hj1, hj2⟩ => ?_, fun ⟨w, hw, he⟩ => ?_⟩
      · rw [List.mem_range] at hj1
        split at hj2
        · cases hj2
        · rename_i hr
          obtain ⟨w, hw, he⟩ := (LV_mem Y told k (c + 1) _ _ v).mp hj2
          have m1 : (w * Y 0 0 + j) % Y 0 0 = j := by rw [Nat.mul_comm, Nat.mul_add_mod, Nat.mod_eq_of_lt hj1]
          have m2 : (w * Y 0 0 + j) / Y 0 0 = w := by rw [Nat.mul_comm, Nat.mul_add_div (by omega), Nat.div_eq_of_lt hj1, Nat.add_zero]
          refine ⟨w * Y 0 0 + j, ?_, ?_⟩
          · have : (w + 1) * Y 0 0 ≤ Y 0 0 ^ rcn told k (c + 1) * Y 0 0 := Nat.mul_le_mul_right _ hw
            rw [Nat.succ_mul] at this
            omega
          · rw [evl, if_pos ⟨ht, by omega⟩, m1, m2, if_neg hr]
            exact he
      · have h0 : 0 < Y 0 0 := by
          rcases Nat.eq_zero_or_pos (Y 0 0) with e | e
          · rw [e, Nat.mul_zero] at hw; omega
          · exact e
        rw [evl, if_pos ⟨ht, h0⟩] at he
        refine ⟨w % Y 0 0, List.mem_range.mpr (Nat.mod_lt _ h0), ?_⟩
        split at he
        · cases he
        · rename_i hr
          rw [if_neg hr]
          exact (LV_mem Y told k (c + 1) _ _ v).mpr ⟨w / Y 0 0, (Nat.div_lt_iff_lt_mul h0).mpr hw, he⟩
    · rw [if_neg ht, if_neg ht, LV_mem Y told k (c + 1) P g v]
      refine ⟨fun ⟨w, hw, he⟩ => ⟨w, hw, ?_⟩, fun ⟨w, hw, he⟩ => ⟨w, hw, ?_⟩⟩
      · rw [evl, if_neg (fun q => ht q.1)]; exact he
      · rw [evl, if_neg (fun q => ht q.1)] at he; exact he
theorem LV_evb {Y : YD} (hY : y_ok Y) {told : Nat} (ht : told < 2 ^ Y 1 0) : (LV Y told (Y 1 0) 0 nil3 0).foldl updE none = evb Y told (Y 0 0 ^ pcn told) := by
  have h6 := hY.2.1
  have hpc : pcn told = rcn told (Y 1 0) 0 := by
    have a := rcn_cnt told (Y 1 0) 0
    rw [show fa_cnt (fun i => told.testBit i) 0 = 0 from rfl, Nat.zero_add, Nat.zero_add] at a
    rw [← a]
    unfold pcn
    have b := cnt_more (fun i => told.testBit i) (Y 1 0) (12 - Y 1 0) (fun k h1 _ => Nat.testBit_lt_two_pow (Nat.lt_of_lt_of_le ht (Nat.pow_le_pow_right (by decide) h1)))
    rw [show Y 1 0 + (12 - Y 1 0) = 12 by omega] at b
    exact b
  have hle : rcn told (Y 1 0) 0 ≤ 6 := by
    have a := rcn_cnt told (Y 1 0) 0
    have := fa_cnt_le (fun i => told.testBit i) (0 + Y 1 0)
    omega
  have h4 : (4 : Nat) ^ rcn told (Y 1 0) 0 ≤ 4 ^ 6 := Nat.pow_le_pow_right (by decide) hle
  have hp := LV_pw hY told (Y 1 0) 0 nil3 0 (by omega)
  rw [fold_upd _ none hp.2 (fun a h => by cases h)]
  refine isMn_u (isMn_cg (fold_mn _ none (fun _ => False) (fun v q => q)) fun v => ?_) (evb_mn Y told _)
  rw [LV_mem, hpc]
  simp
