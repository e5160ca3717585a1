/-! From the constructors' cells to the store -/
def kG (D : va_G) (base : Nat) (cid : Nat → ClassId) (aS : Nat → Nat → Nat) : qG := (fun f i => if f < 97 then base + k_off f i else aS f i, fun f i => cid (k_off f i), D)
theorem k_cnt81 {f i : Nat} (hi : i < q_cnt f) : f < 81 := by
  have hb : ∀ f, 81 ≤ f → q_cnt f = 0 := by
    intro f hf
    unfold q_cnt
    split <;> first | rfl | omega
  by_cases h : f < 81
  · exact h
  · rw [hb f (by omega)] at hi
    omega
theorem k_ivc_get {lo n f i : Nat} (h : k_ivc lo n = true) (h1 : lo ≤ f) (h2 : f < lo + n) (hi : i < q_cnt f) : k_inv[k_off f i]? = some (f, i) := by
  unfold k_ivc at h
  have h3 := List.all_eq_true.mp h f (List.mem_range'_1.mpr ⟨h1, h2⟩)
  exact of_decide_eq_true (List.all_eq_true.mp h3 i (List.mem_range.mpr hi))
theorem k_ivs {f i : Nat} (hi : i < q_cnt f) : k_inv[k_off f i]? = some (f, i) := by
  have hf := k_cnt81 hi
  rcases (show f < 26 ∨ (26 ≤ f ∧ f < 40) ∨ (40 ≤ f ∧ f < 54) ∨ f = 54 ∨ f = 55 ∨ f = 56 ∨ (57 ≤ f ∧ f < 64) ∨ f = 64 ∨ 65 ≤ f by omega) with h | h | h | h | h | h | h | h | h
  · exact k_ivc_get k_iv0 (by omega) (by omega) hi
  · exact k_ivc_get k_iv26 (by omega) (by omega) hi
  · exact k_ivc_get k_iv40 (by omega) (by omega) hi
  · exact k_ivc_get k_iv54 (by omega) (by omega) hi
  · exact k_ivc_get k_iv55 (by omega) (by omega) hi
  · exact k_ivc_get k_iv56 (by omega) (by omega) hi
  · exact k_ivc_get k_iv57 (by omega) (by omega) hi
  · exact k_ivc_get k_iv64 (by omega) (by omega) hi
  · exact k_ivc_get k_iv65 (by omega) (by omega) hi
theorem k_zip_get : ∀ {ps : List (Nat × Nat)} {cs : List kC} {q0 q : Nat} {p : Nat × Nat}, k_zip ps cs q0 = true → ps[q]? = some p → ∃ c, cs[q]? = some c ∧ k_chc p.1 p.2 c = true
  | [], _, _, _, _, _, hp => by cases hp
  | p0 :: ps, [], _, _, _, h, _ => by cases h
  | p0 :: ps, c :: cs, q0, 0, p, h, hp => by
    unfold k_zip at h
    rw [Bool.and_eq_true, Bool.and_eq_true] at h
    cases hp
    exact ⟨c, rfl, h.1.1⟩
  | p0 :: ps, c :: cs, q0, q + 1, p, h, hp => by
    unfold k_zip at h
    rw [Bool.and_eq_true] at h
    obtain ⟨c', a, b⟩ := k_zip_get (ps := ps) (cs := cs) (q0 := q0 + 1) (q := q) (p := p) h.2 hp
    exact ⟨c', a, b⟩
theorem k_cell {f i : Nat} (hi : i < q_cnt f) : ∃ c, kF[k_off f i]? = some c ∧ k_chc f i c = true := k_zip_get kF_zip (k_ivs hi)
theorem k_look_0 {j : Nat} : ∀ {w : List (Nat × qV)}, w.all (fun e => decide (e.2 = .inl 0)) = true → k_int (k_look w j) = 0
  | [], _ => rfl
  | (k, v) :: w, h => by
    rw [List.all_cons, Bool.and_eq_true] at h
    have h1 : v = .inl 0 := of_decide_eq_true h.1
    show k_int (if k = j then some v else k_look w j) = 0
    by_cases e : k = j
    · rw [if_pos e, h1]
      rfl
    · rw [if_neg e]
      exact k_look_0 h.2
/-- rows of numbers that are not special are all 0 -/
theorem kSI_0 {f i j : Nat} (hs : ¬ k_sp f = true) (hk : q_ak f = 0 ∨ q_ak f = 1) : kSI f i j = 0 := by
  have hs : f ≠ 13 ∧ f ≠ 43 ∧ f ≠ 44 ∧ f ≠ 47 ∧ f ≠ 48 := by
    unfold k_sp at hs
    simpa using hs
  have ho : ∀ g, g = 3 ∨ g = 1 ∨ g = 12 ∨ g = 40 → q_ak g = 9 := by
    intro g hg
    rcases hg with rfl | rfl | rfl | rfl <;> rfl
  have h1 : f ≠ 3 ∧ f ≠ 1 ∧ f ≠ 12 ∧ f ≠ 40 := by
    refine ⟨fun e => ?_, fun e => ?_, fun e => ?_, fun e => ?_⟩ <;> (rw [ho f (by omega)] at hk; omega)
  unfold kSI
  rw [if_neg h1.1, if_neg h1.2.1, if_neg h1.2.2.1, if_neg hs.1, if_neg h1.2.2.2, if_neg (by omega), if_neg (by omega)]
theorem k_ca_get {f i n : Nat} {w : List (Nat × qV)} (h : k_ca f i n w = true) (hk : q_ak f = 0 ∨ q_ak f = 1) {j : Nat} (hj : j < n) : k_int (k_look w j) = kSI f i j := by
  unfold k_ca at h
  split at h
  · exact of_decide_eq_true (List.all_eq_true.mp h j (List.mem_range.mpr hj))
  · rename_i hs
    rw [k_look_0 h, kSI_0 hs hk]
section KY
variable {D : va_G} {base : Nat} {cid : Nat → ClassId} {aS : Nat → Nat → Nat} {s : State} {H : Heap}
theorem kG_1 {f i : Nat} (hf : f < 97) : (kG D base cid aS).1 f i = base + k_off f i := if_pos hf
theorem k_chf_v {f i j : Nat} {k : Nat × Nat × Nat × Nat} {v : Option kW} (hg : k.1 = 3 ∨ k.1 = 4 → k.2.1 < 97) (h : k_chf f i j k v = true) : v.map (k_val D base) = some (q_fv (kG D base cid aS) kS f i j k) := by
  obtain ⟨a, b, c, d⟩ := k
  unfold k_chf at h
  split at h
  · rename_i x hx
    have hx : a = 0 := hx
    subst hx
    rw [of_decide_eq_true h]
    rfl
  · rename_i y hx
    have hx : a = 1 := hx
    subst hx
    rw [of_decide_eq_true h]
    rfl
  · rename_i x hx
    have hx : a = 2 := hx
    subst hx
    rw [of_decide_eq_true h]
    rfl
  · rename_i p hx
    have hx : a = 3 := hx
    subst hx
    show some (Value.ref (base + p.2)) = some (Value.ref ((kG D base cid aS).1 b (c + d * i)))
    rw [of_decide_eq_true h, kG_1 (hg (Or.inl rfl))]
  · rename_i p hx
    have hx : a = 4 := hx
    subst hx
    show some (Value.ref (base + p.2)) = some (Value.ref ((kG D base cid aS).1 b (k_mr f i j)))
    rw [of_decide_eq_true h, kG_1 (hg (Or.inr rfl))]
  · cases h
end KY
