/-! The store behind the constructors -/
def k_gok : Bool := (List.range 81).all (fun f => match q_fam f with
  | .inl q => (List.range q.2.length).all (fun j => match q.2[j]? with
    | some k => (decide (k.1 < 3) || decide (k.2.1 < 97)) && (decide (k.1 ≠ 4) || decide (k_mr f 0 j < q_cnt k.2.1))
    | none => true)
  | .inr (_, _, g, _, _) => decide (g < 97))
theorem k_goko {f : Nat} (hf : f < 81) {q : Nat × List (Nat × Nat × Nat × Nat)} (hq : q_fam f = .inl q) (hok : k_gok = true) {j : Nat} {k : Nat × Nat × Nat × Nat} (hk : q.2[j]? = some k) : (k.1 = 3 ∨ k.1 = 4 → k.2.1 < 97) ∧ (k.1 = 4 → k_mr f 0 j < q_cnt k.2.1) := by
  unfold k_gok at hok
  have h := List.all_eq_true.mp hok f (List.mem_range.mpr hf)
  rw [hq] at h
  have h := List.all_eq_true.mp h j (List.mem_range.mpr (List.getElem?_eq_some_iff.mp hk).1)
  rw [hk] at h
  simp only [Bool.and_eq_true, Bool.or_eq_true, decide_eq_true_eq] at h
  exact ⟨fun e => h.1.elim (fun q => by omega) id, fun e => h.2.elim (fun q => absurd e q) id⟩
section KZ
variable {D : va_G} {base : Nat} {cid : Nat → ClassId} {aS : Nat → Nat → Nat} {s : State} {H : Heap}
set_option maxHeartbeats 1000000 in
theorem k_at1 (hok : k_gok = true) (hHH : k_HH D base cid s kF H) {f i : Nat} (hi : i < q_cnt f) : va_at D vwCl ((kG D base cid aS).1 f i, q_cel (kG D base cid aS) kS f i) H ∧ (q_ak f < 4 → ArrOfT s (cid (k_off f i)) (q_aty f) ∧ va_RA s (cid (k_off f i)) (q_aty f)) := by
  have hf := k_cnt81 hi
  obtain ⟨c, hc, hch⟩ := k_cell hi
  have hat := hHH.1 (k_off f i) _ (k_gt hc)
  rw [kG_1 (by omega)]
  unfold k_chc at hch
  cases hq : q_fam f with
  | inl q =>
    rw [hq] at hch
    have hak : ¬ q_ak f < 4 := by
      unfold q_ak
      rw [hq]
      exact Nat.not_lt.mpr (show 4 ≤ 9 by decide)
    refine ⟨?_, fun h => absurd h hak⟩
    rcases c with o | o
    · simp only [Bool.and_eq_true, decide_eq_true_eq] at hch
      obtain ⟨h1, h2, h3⟩ := hch
      have hcel : q_cel (kG D base cid aS) kS f i = .inr (q.1, q_fvs (kG D base cid aS) kS f i 0 q.2) := by
        unfold q_cel
        rw [hq]
      have hfv : q_fvs (kG D base cid aS) kS f i 0 q.2 = o.2.map (k_val D base) := by
        apply List.ext_getElem?
        intro j
        rw [q_fvs_get, List.getElem?_map, Nat.zero_add]
        by_cases hj : j < q.2.length
        · have hk : q.2[j]? = some (q.2[j]) := List.getElem?_eq_getElem hj
          have h4 := List.all_eq_true.mp h3 j (List.mem_range.mpr hj)
          rw [List.getD_eq_getElem?_getD, hk] at h4
          rw [k_chf_v (k_goko hf hq hok hk).1 h4, hk]
          rfl
        · rw [List.getElem?_eq_none (by omega), List.getElem?_eq_none (by omega)]
          rfl
      rw [hcel, hfv, ← h1]
      exact hat
    · cases hch
  | inr q =>
    obtain ⟨k, n, g, c0, c1⟩ := q
    rw [hq] at hch
    rcases c with o | o
    · cases hch
    · obtain ⟨ty, n', w⟩ := o
      simp only [Bool.and_eq_true, decide_eq_true_eq] at hch
      obtain ⟨rfl, h2, h3⟩ := hch
      have hT := hHH.2 (k_off f i) ty n' w hc
      rw [h2] at hT
      refine ⟨?_, fun _ => hT⟩
      have hak : q_ak f = k := by
        unfold q_ak
        rw [hq]
      have hg97 : g < 97 := by
        have h := hok
        unfold k_gok at h
        have h := List.all_eq_true.mp h f (List.mem_range.mpr hf)
        rw [hq] at h
        exact of_decide_eq_true h
      have hcel := fun (x : va_E) (h : (match q_fam f with
        | .inl q => .inr (q.1, q_fvs (kG D base cid aS) kS f i 0 q.2)
        | .inr (0, n, _) => .inl ((kG D base cid aS).2.1 f i, n, .inl (q_I kS f i))
        | .inr (1, n, _) => .inl ((kG D base cid aS).2.1 f i, n, .inl (q_I kS f i))
        | .inr (2, n, _) => .inl ((kG D base cid aS).2.1 f i, n, .inr (.inl (q_L kS f i)))
        | .inr (_, n, g, c0, c1) => .inl ((kG D base cid aS).2.1 f i, n, .inr (.inr (.inr (.inr (fun j => some ((kG D base cid aS).1 g (c0 + c1 * i + j)))))))) = x) => (show q_cel (kG D base cid aS) kS f i = x from h)
      rw [hq] at hcel
      unfold k_chr at h3
      split at h3
      · simp only [Bool.and_eq_true, decide_eq_true_eq] at h3
        obtain ⟨rfl, h3⟩ := h3
        rw [hcel _ rfl]
        have hat : H[base + k_off f i]? = some (arrV (cid (k_off f i)) n' (fun j => .int (k_int (k_look w j)))) := hat
        show H[base + k_off f i]? = some (arrV (cid (k_off f i)) n' (fun j => .int (q_I kS f i j)))
        rw [hat]
        exact congrArg some (arrV_cg (fun j hj => by rw [k_ca_get h3 (Or.inl hak) hj]; rfl))
      · simp only [Bool.and_eq_true, decide_eq_true_eq] at h3
        obtain ⟨rfl, h3⟩ := h3
        rw [hcel _ rfl]
        have hat : H[base + k_off f i]? = some (arrV (cid (k_off f i)) n' (fun j => .int (k_int (k_look w j)))) := hat
        show H[base + k_off f i]? = some (arrV (cid (k_off f i)) n' (fun j => .int (q_I kS f i j)))
        rw [hat]
        exact congrArg some (arrV_cg (fun j hj => by rw [k_ca_get h3 (Or.inr hak) hj]; rfl))
      · have h3 := of_decide_eq_true h3
        subst h3
        rw [hcel _ rfl]
        exact hat
      · simp only [Bool.and_eq_true, decide_eq_true_eq] at h3
        obtain ⟨h3t, h3⟩ := h3
        rw [hcel _ rfl]
        have hk3 : k_cel D base (cid (k_off f i)) (.inr (ty, n', w)) = .inl (cid (k_off f i), n', .inr (.inr (.inr (.inr (fun j => k_ref base (k_look w j)))))) := by
          obtain ⟨t, rfl⟩ : ∃ t, ty = t + 3 := ⟨ty - 3, by omega⟩
          rfl
        rw [hk3] at hat
        have hat : H[base + k_off f i]? = some (arrV (cid (k_off f i)) n' (fun j => va_rf (k_ref base (k_look w j)))) := hat
        show H[base + k_off f i]? = some (arrV (cid (k_off f i)) n' (fun j => va_rf (some ((kG D base cid aS).1 g (c0 + c1 * i + j)))))
        rw [hat]
        refine congrArg some (arrV_cg (fun j hj => ?_))
        rw [of_decide_eq_true (List.all_eq_true.mp h3 j (List.mem_range.mpr hj)), kG_1 hg97]
        rfl
      · cases h3
theorem k_gok_y : k_gok = true := by decide +kernel
theorem k_toH (hHH : k_HH D base cid s kF H) : q_H (kG D base cid aS) kS H := by
  refine ⟨fun f i hi => (k_at1 k_gok_y hHH hi).1, fun f i j g c hi hk => ?_⟩
  have hf := k_cnt81 hi
  unfold q_fk at hk
  cases hq : q_fam f with
  | inl q =>
    rw [hq] at hk
    exact (k_goko hf hq k_gok_y hk).2 rfl
  | inr q => rw [hq] at hk; cases hk
theorem k_toW (hK : va_K D vwCl [] s) (hHH : k_HH D base cid s kF H) : q_W (kG D base cid aS) s := by
  refine ⟨hK, fun f i hi hk => (k_at1 (aS := aS) k_gok_y hHH hi).2 hk, fun f i g j hi hj e => ?_⟩
  have hf := k_cnt81 hi
  have hg := k_cnt81 hj
  rw [kG_1 (by omega), kG_1 (by omega)] at e
  have h1 := k_ivs hi
  have h2 := k_ivs hj
  rw [show k_off f i = k_off g j by omega, h2] at h1
  cases h1
  exact ⟨rfl, rfl⟩
end KZ
theorem kCL : CL kS 0 a00 := by
  refine CL_start (fun f i j h1 h2 h3 => ?_) (fun r => rfl) ⟨rfl, rfl, rfl, rfl, rfl, rfl⟩ ⟨rfl, by decide, fun k hk => ?_⟩
  · show kSI f i j = _
    unfold kSI
    by_cases e3 : f = 3
    · subst e3
      rw [if_pos rfl]
      by_cases ej : j = 2
      · rw [if_pos ej, if_pos ⟨rfl, ej⟩]
      · rw [if_neg ej, if_neg (fun q => ej q.2), if_neg (by omega)]
    · rw [if_neg e3, if_neg (c := f = 3 ∧ j = 2) (fun q => e3 q.1)]
      by_cases e1 : f = 1
      · subst e1
        rw [if_pos rfl]
        by_cases ej : i = 0 ∧ j = 6
        · rw [if_pos ej, if_pos ⟨rfl, ej⟩]
        · rw [if_neg ej, if_neg (fun q => ej q.2)]
      · rw [if_neg e1, if_neg (c := f = 1 ∧ i = 0 ∧ j = 6) (fun q => e1 q.1), if_neg h2, if_neg h3, if_neg (by omega), if_neg (by omega), if_neg (by omega)]
  · have : ∀ k, k < 7 → q_I kS 13 0 k = (defc.map tkI).getD k 0 := by decide
    exact this k hk
def kS0 : qSt := (fun f i j => if 40 ≤ f ∧ f < 80 then (if f = 40 ∧ i = 0 ∧ j = 3 then -1 else 0) else kSI f i j, fun _ _ _ => 0, k_mr)
def kS1 : qSt := (fun f i j => if f = 43 ∨ f = 47 then kSI f i j else kS0.1 f i j, fun _ _ _ => 0, k_mr)
theorem kRF : RF kS a00 := by
  refine (RF_start (S := kS0) (S1 := kS1) (S2 := kS) (fun f i j h1 h2 => ?_) (fun f i hn => ⟨?_, rfl, rfl⟩) ⟨rfl, rfl, rfl, fun k hk => absurd hk (Nat.not_lt_zero _), fun c hc => absurd hc (Nat.not_lt_zero _)⟩ ⟨fun l hl => ⟨?_, fun k hk => absurd hk (Nat.not_lt_zero _)⟩, fun c hc => ?_, rfl, by decide⟩ ⟨rfl, rfl, rfl, rfl, rfl⟩ (fun j _ _ _ _ _ => ?_) (fun f i hn => ⟨?_, rfl, rfl⟩)).1
  · show (if 40 ≤ f ∧ f < 80 then (if f = 40 ∧ i = 0 ∧ j = 3 then (-1 : Int32) else 0) else kSI f i j) = _
    rw [if_pos ⟨h1, h2⟩]
  · funext j
    show (if f = 43 ∨ f = 47 then kSI f i j else kS0.1 f i j) = kS0.1 f i j
    rw [if_neg hn]
  · rfl
  · rfl
  · show kSI 40 0 j = if 40 = 43 ∨ 40 = 47 then kSI 40 0 j else (if 40 ≤ 40 ∧ 40 < 80 then (if 40 = 40 ∧ 0 = 0 ∧ j = 3 then (-1 : Int32) else 0) else kSI 40 0 j)
    rw [if_neg (by decide), if_pos (by decide)]
    unfold kSI
    rw [if_neg (by decide), if_neg (by decide), if_neg (by decide), if_neg (by decide), if_pos rfl]
    by_cases e : j = 3
    · rw [if_pos ⟨rfl, e⟩, if_pos ⟨rfl, rfl, e⟩]
    · rw [if_neg (fun q => e q.2), if_neg (fun q => e q.2.2)]
  · funext j
    show kSI f i j = if f = 43 ∨ f = 47 then kSI f i j else (if 40 ≤ f ∧ f < 80 then (if f = 40 ∧ i = 0 ∧ j = 3 then (-1 : Int32) else 0) else kSI f i j)
    have hn : f ≠ 40 ∧ f ≠ 44 ∧ f ≠ 48 := ⟨fun e => hn (Or.inl e), fun e => hn (Or.inr (Or.inl e)), fun e => hn (Or.inr (Or.inr (Or.inr (Or.inl e))))⟩
    by_cases e : f = 43 ∨ f = 47
    · rw [if_pos e]
    · rw [if_neg e]
      by_cases e2 : 40 ≤ f ∧ f < 80
      · rw [if_pos e2, if_neg (fun q => hn.1 q.1)]
        unfold kSI
        rw [if_neg (by omega), if_neg (by omega), if_neg (by omega), if_neg (by omega), if_neg (by omega), if_neg (by omega), if_neg (by omega)]
      · rw [if_neg e2]
theorem kBS : BS kS 0 a00 0 := ⟨kCL, kRF, IV_00⟩
